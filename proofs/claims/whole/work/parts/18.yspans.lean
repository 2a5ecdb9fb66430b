theorem sy_uu (a : Nat → Int32) (i : Nat) (x y : Int32) : upd (upd a i x) i y = upd a i y := by
  funext j
  unfold upd
  by_cases e : j = i
  · rw [if_pos e, if_pos e]
  · rw [if_neg e, if_neg e, if_neg e]
theorem sy_u0 (a : Nat → Int32) (i : Nat) : upd a i (a i) = a := by
  funext j
  unfold upd
  by_cases e : j = i
  · rw [if_pos e, e]
  · rw [if_neg e]
theorem sy_12 (p : Nat) : 12 * nI p = nI (12 * p) := by
  show nI 12 * nI p = _
  rw [pk_mul]
section
variable {gdc gsg gnn gpt gkp : Int32} {bN bP bL bT bS bD bV bPT bTK bLN bKD bSP bWT bIS bMA bNN bNC bKN bSH bIH : Nat → Int32} {bSC bKS bHS : Nat → Int64}
theorem ys_begin {p : Nat} (hp20 : p < 20) (b : Bool) {post : SY → Prop} (hp : post (gdc, gsg, gnn, gpt, gkp, bN, bP, bL, bT, bS, bD, bV, bPT, bTK, bLN, bKD, sd_cy bSP (12 * p) (fun _ => 0) 0 12, bWT, upd bIS p (sg_B b), bMA, bSC, bNN, bNC, bKN, bKS, bSH, bIH, bHS)) : wpY_begin post (gdc, gsg, gnn, gpt, gkp, bN, bP, bL, bT, bS, bD, bV, bPT, bTK, bLN, bKD, bSP, bWT, bIS, bMA, bSC, bNN, bNC, bKN, bKS, bSH, bIH, bHS) (nI p) (sg_B b) := by
  have key : ∀ m i, i + m = 12 → wY_begin_9 post (nI p) gdc gsg gnn gpt gkp (m + 1) (nI i) bN bP bL bT bS bD bV bPT bTK bLN bKD (sd_cy bSP (12 * p) (fun _ => 0) 0 i) bWT (upd bIS p (sg_B b)) bMA bSC bNN bNC bKN bKS bSH bIH bHS := by
    intro m
    induction m with
    | zero =>
      intro i h
      obtain rfl : i = 12 := by omega
      exact br_t (nI_le (b := 12) (Nat.le_refl _) (by decide)) hp
    | succ m ih =>
      intro i h
      refine br_f (nI_ge (b := 12) (by omega) (by decide)) ⟨by rw [sy_ix]; exact vp_in_nI (by omega) (by omega), ?_⟩
      rw [sy_ix, nI_clamp (by omega)]
      exact nm_r (sd_cy_s bSP (12 * p) (fun _ => 0) 0 i) (nm_r (nI_1 _) (ih (i + 1) (by omega)))
  have k0 := key 12 0 rfl
  rw [sd_cy_0] at k0
  exact ⟨vp_in_nI hp20 (by omega), nm_r (by rw [nI_clamp (by omega), sx_nb (sg_B_01 b)]) (Exists.intro 13 k0)⟩
theorem ys_set {p d st dc : Nat} {v : sv_T} (hp20 : p < 20) (hd : d < 32) (hP : sd_P bS st dc) (hL : sd_L bL) (hE : sy_E bIS bMA bSP bWT bSC p v) (hw : v.1 = true → v.2.2.1 ≤ 405) {post : SY → Prop}
    (hp : ∀ (IS MA : Nat → Int32) (SC : Nat → Int64), sy_E IS MA bSP bWT SC p (sv_se (sv_own (sd_n bL d) st (sg_sm (sd_n bL) st)) v) → (∀ j, j ≠ p → IS j = bIS j ∧ MA j = bMA j ∧ SC j = bSC j) → post (nI dc, gsg, gnn, gpt, gkp, bN, bP, bL, bT, bS, bD, bV, bPT, bTK, bLN, bKD, bSP, bWT, IS, MA, SC, bNN, bNC, bKN, bKS, bSH, bIH, bHS)) :
    wpY_settled post (nI dc, gsg, gnn, gpt, gkp, bN, bP, bL, bT, bS, bD, bV, bPT, bTK, bLN, bKD, bSP, bWT, bIS, bMA, bSC, bNN, bNC, bKN, bKS, bSH, bIH, bHS) (nI p) (nI d) := by
  have ep : (nI p).toNatClampNeg = p := nI_clamp (by omega)
  have ed : (nI d).toNatClampNeg = d := nI_clamp (by omega)
  have hv : vp_in (nI p) 20 := vp_in_nI hp20 (by omega)
  obtain ⟨h1, h2, h3⟩ := hE
  refine ⟨hv, ?_⟩
  rw [ep, h1]
  cases hv1 : v.1 with
  | false =>
    refine br_t rfl ?_
    have := hp bIS bMA bSC (by unfold sv_se; rw [hv1, if_neg (by decide)]; exact ⟨h1, h2, h3⟩) (fun j _ => ⟨rfl, rfl, rfl⟩)
    exact this
  | true =>
    refine br_f (by decide) ?_
    obtain ⟨hW, hs⟩ := h2 hv1
    have hw' := hw hv1
    have hst := hP.1
    have h32 := hP.2.1
    have hct := sv_ct_le v.2.1
    have htot : sg_sm (sd_n bL) st ≤ 384 := by
      have := sg_sm_le (f := sd_n bL) 12 st (fun i _ => (hL i).2)
      omega
    generalize htt : sg_sm (sd_n bL) st = tot at htot hp
    generalize hown : sv_own (sd_n bL d) st tot = own at hp
    have ese : sv_se own v = (false, fun _ => 0, 0, decide (0 < sv_ct v.2.1), sv_sc own v.2.2.1 (sv_ct v.2.1)) := by
      unfold sv_se sv_mt sv_ss
      rw [if_pos hv1, if_pos hv1, if_pos hv1]
    rw [ese] at hp
    have fin : ∀ (SC : Nat → Int64), SC p = lN (sv_sc own v.2.2.1 (sv_ct v.2.1)) → (∀ j, j ≠ p → SC j = bSC j) → post (nI dc, gsg, gnn, gpt, gkp, bN, bP, bL, bT, bS, bD, bV, bPT, bTK, bLN, bKD, bSP, bWT, upd bIS p 0, upd bMA p (sg_B (decide (0 < sv_ct v.2.1))), SC, bNN, bNC, bKN, bKS, bSH, bIH, bHS) := by
      intro SC hS1 hS2
      exact hp _ _ SC ⟨pk_us, fun z => absurd (show false = true from z) (by decide), fun _ => ⟨pk_us, hS1⟩⟩ (fun j hj => ⟨pk_un hj, pk_un hj, hS2 j hj⟩)
    have h2d := sg_sm_2d (fun a b => sv_bn (v.2.1 a) b) 12
    have h2e : sg_sm (fun i => sg_sm (fun b => sv_bn (v.2.1 i) b) 12) 12 = sv_ct v.2.1 := rfl
    rw [h2e] at h2d
    generalize sv_ct v.2.1 = n at hct fin h2d
    have hlen := (hL d).2
    have hob : own ≤ 34560 := by
      rw [← hown]
      unfold sv_own
      split
      · omega
      · exact Nat.le_trans (Nat.div_le_self _ _) (Nat.mul_le_mul (Nat.mul_le_mul (Nat.le_refl 90) hlen) (show st ≤ 32 by omega))
    have hm2 : v.2.2.1 * 220 * n ≤ 405 * 220 * 144 := Nat.mul_le_mul (Nat.mul_le_mul hw' (Nat.le_refl _)) hct
    have l146 : wY_settled_146 post (nI p) (nI n) (nI own) (nI dc) gsg gnn gpt gkp bN bP bL bT bS bD bV bPT bTK bLN bKD bSP bWT (upd bIS p 0) (upd bMA p (sg_B (decide (0 < n)))) bSC bNN bNC bKN bKS bSH bIH bHS := by
      refine br_c (fun h0 => ?_) (fun h0 => ?_)
      · have hn0 : n = 0 := (nI_eq (b := 0) (by omega) (by decide)).mp h0
        refine ⟨hv, ?_⟩
        rw [ep]
        refine nm_e (fin _ ?_ (fun j hj => pk_uLn hj))
        rw [pk_uLs]
        unfold sv_sc
        rw [if_pos hn0]; rfl
      · have hn0 : n ≠ 0 := fun z => h0 (by rw [z]; rfl)
        have el : ((100 * (nI n).toInt64) + 30) + (nI own).toInt64 = lN (100 * n + 30 + own) := by
          rw [nI_l (by omega), nI_l (by omega)]
          show lN 100 * lN n + lN 30 + lN own = _
          rw [lN_mul, lN_add, lN_add]
        have en : (((bWT p).toInt64 * 220) * (nI n).toInt64) = lN (v.2.2.1 * 220 * n) := by
          rw [hW, nI_l (by omega), nI_l (by omega)]
          show lN v.2.2.1 * lN 220 * lN n = _
          rw [lN_mul, lN_mul]
        refine ⟨hv, ?_⟩
        rw [ep, el, en, pk_lDiv (by omega) (by omega) (by omega)]
        refine ⟨fun z => by have := (pk_lEQ (b := 0) (by omega) (by decide)).mp z; omega, hv, nm_e (fin _ ?_ (fun j hj => pk_uLn hj))⟩
        rw [pk_uLs]
        unfold sv_sc
        rw [if_neg hn0]
    have l83 : ∀ m i, i + m = dc → wY_settled_83 post (nI p) (nI d) (nI n) (nI dc) gsg gnn gpt gkp bN bP bL bT bS bD bV bPT bTK bLN bKD bSP bWT (upd bIS p 0) (upd bMA p (sg_B (decide (0 < n)))) bSC bNN bNC bKN bKS bSH bIH bHS (m + 1) (nI (sg_sm (sd_n bL) (min i st))) (nI i) := by
      intro m
      induction m with
      | zero =>
        intro i h
        obtain rfl : i = dc := by omega
        rw [Nat.min_eq_right hst, htt]
        refine br_t (nI_le (Nat.le_refl _) (by omega)) (br_c (fun h0 => ?_) (fun h0 => ?_))
        · have ht0 : tot = 0 := (nI_eq (b := 0) (by omega) (by decide)).mp h0
          have ho : own = 0 := by rw [← hown]; unfold sv_own; rw [if_pos ht0]
          rw [ho] at l146
          exact l146
        · have ht0 : tot ≠ 0 := fun z => h0 (by rw [z]; rfl)
          refine ⟨vp_in_nI hd (by omega), yr_on hP ⟨h0, ?_⟩⟩
          have hm1 : 90 * sd_n bL d * st ≤ 90 * 12 * 32 := Nat.mul_le_mul (Nat.mul_le_mul (Nat.le_refl 90) hlen) (show st ≤ 32 by omega)
          have ex : ((90 * (bL d)) * nI st) / nI tot = nI own := by
            rw [(hL d).1]
            show nI 90 * nI (sd_n bL d) * nI st / nI tot = _
            rw [pk_mul, pk_mul, pk_div (by omega) (by omega) (by omega), ← hown]
            unfold sv_own
            rw [if_neg ht0]
          rw [ed, ex]
          exact l146
      | succ m ih =>
        intro i h
        have e : (nI i).toNatClampNeg = i := nI_clamp (by omega)
        have I := ih (i + 1) (by omega)
        refine br_f (nI_ge (by omega) (by omega)) ⟨vp_in_nI (by omega) (by omega), br_c (fun hc => ?_) (fun hc => ?_)⟩
        · rw [e] at hc
          have hn := (sd_P_lt hP (show i < dc by omega)).mp hc
          rw [Nat.min_eq_right (by omega)] at I
          rw [Nat.min_eq_right (by omega)]
          exact nm_r (nI_1 _) I
        · rw [e] at hc
          have hn : i < st := by
            rcases Nat.lt_or_ge i st with a | a
            · exact a
            · exact absurd ((sd_P_lt hP (show i < dc by omega)).mpr (by omega)) hc
          rw [Nat.min_eq_left (by omega)] at I
          rw [Nat.min_eq_left (by omega)]
          refine ⟨vp_in_nI (by omega) (by omega), ?_⟩
          rw [e]
          exact nm_r (by rw [(hL i).1, nI_add]; rfl) (nm_r (nI_1 _) I)
    have k83 := l83 dc 0 (Nat.zero_add _)
    rw [Nat.zero_min] at k83
    have l15 : ∀ m i, i + m = 144 → wY_settled_15 post (nI p) (nI d) (nI dc) gsg gnn gpt gkp bN bP bL bT bS bD bV bPT bTK bLN bKD bSP bWT bIS bMA bSC bNN bNC bKN bKS bSH bIH bHS (m + 1) (nI (sg_sm (fun i => sv_bn (v.2.1 (i / 12)) (i % 12)) i)) (nI i) := by
      intro m
      induction m with
      | zero =>
        intro i h
        obtain rfl : i = 144 := by omega
        have e144 : sg_sm (fun i => sv_bn (v.2.1 (i / 12)) (i % 12)) 144 = n := h2d
        rw [e144]
        refine br_t (nI_le (b := 144) (Nat.le_refl _) (by decide)) ⟨hv, ?_⟩
        rw [ep]
        refine nm_r (by rw [sx_nb (Or.inl rfl)]) (br_c (fun hc => ⟨hv, ?_⟩) (fun hc => ⟨hv, ?_⟩))
        · have hn0 : n ≤ 0 := (nI_leI (b := 0) (by omega) (by decide)).mp hc
          rw [decide_eq_false (by omega)] at k83
          exact nm_r (by rw [sx_nb (Or.inl rfl)]; rfl) (Exists.intro _ k83)
        · have hn0 : ¬ n ≤ 0 := fun z => hc ((nI_leI (b := 0) (by omega) (by decide)).mpr z)
          rw [decide_eq_true (by omega)] at k83
          exact nm_r (by rw [sx_nb (Or.inr rfl)]; rfl) (Exists.intro _ k83)
      | succ m ih =>
        intro i h
        have e1 : nI i / 12 = nI (i / 12) := by
          show nI i / nI 12 = _
          rw [pk_div (by omega) (by omega) (by omega)]
        have e2 : nI i - nI i / 12 * 12 = nI (i % 12) := by
          show nI i - nI i / nI 12 * nI 12 = _
          rw [pk_rem (by omega) (by omega) (by omega)]
        refine br_f (nI_ge (b := 144) (by omega) (by decide)) ⟨by decide, ?_⟩
        rw [e2, e1, sy_ix, nI_clamp (by omega), hs (i / 12) (by omega), sv_bit _ (show i % 12 < 32 by omega), nI_add]
        exact ⟨vp_in_nI (by omega) (by omega), by decide, nm_e (nm_r (nI_1 _) (ih (i + 1) (by omega)))⟩
    exact Exists.intro 145 (l15 144 0 rfl)
theorem ys_connect {t p s1 s2 : Nat} {x y : Bool} (hp20 : p + 1 < 20) (ht : t = 8 ∨ t = 9 ∨ t = 10) (hx : bMA (p + 1) = sg_B x) (hy : bMA p = sg_B y) (h1 : bSC (p + 1) = lN s1) (h2 : bSC p = lN s2) {post : SY → Prop}
    (hp : post (gdc, gsg, gnn, gpt, gkp, bN, bP, bL, bT, bS, bD, bV, bPT, bTK, bLN, bKD, bSP, bWT, bIS, upd bMA p (sg_B (sv_cm t x y)), vp_updL bSC p (lN (if t = 10 then s1 else s1 + s2)), bNN, bNC, bKN, bKS, bSH, bIH, bHS)) : wpY_connect post (gdc, gsg, gnn, gpt, gkp, bN, bP, bL, bT, bS, bD, bV, bPT, bTK, bLN, bKD, bSP, bWT, bIS, bMA, bSC, bNN, bNC, bKN, bKS, bSH, bIH, bHS) (nI t) (nI (p + 1)) := by
  have e1 : (nI (p + 1)).toNatClampNeg = p + 1 := nI_clamp (by omega)
  have e0 : (nI p).toNatClampNeg = p := nI_clamp (by omega)
  have hv1 : vp_in (nI (p + 1)) 20 := vp_in_nI hp20 (by omega)
  have hv0 : vp_in (nI p) 20 := vp_in_nI (by omega) (by omega)
  have f84 : ∀ z : Bool, sv_cm t x y = z → wY_connect_84 post (nI t) (nI (p + 1)) (sg_B z) (nI p) gdc gsg gnn gpt gkp bN bP bL bT bS bD bV bPT bTK bLN bKD bSP bWT bIS bMA bSC bNN bNC bKN bKS bSH bIH bHS := by
    intro z hz
    rw [hz] at hp
    refine ⟨hv0, ?_⟩
    rw [e0]
    refine nm_r (by rw [sx_nb (sg_B_01 z)]) ?_
    rw [nI_pred, e1, e0]
    by_cases h10 : t = 10
    · rw [if_pos h10] at hp
      exact br_t (by rw [h10]; rfl) ⟨hv1, hv0, nm_r (by rw [h1]) hp⟩
    · rw [if_neg h10] at hp
      exact br_f (fun zz => h10 ((nI_eq (b := 10) (by omega) (by decide)).mp zz)) ⟨hv1, hv0, hv0, nm_r (by rw [h1, h2, lN_add]) hp⟩
  refine ⟨hv1, ?_⟩
  rw [nI_pred, e1, e0]
  refine nm_r hx ⟨hv0, nm_r hy ?_⟩
  rcases ht with rfl | rfl | rfl
  · refine br_t rfl ?_
    cases x
    · exact br_t rfl (f84 false rfl)
    · cases y
      · exact br_f (by decide) (br_t rfl (f84 false rfl))
      · exact br_f (by decide) (br_f (by decide) (f84 true rfl))
  · refine br_f (by decide) (br_t rfl ?_)
    cases x
    · cases y
      · exact br_t rfl (br_t rfl (f84 false rfl))
      · exact br_t rfl (br_f (by decide) (f84 true rfl))
    · exact br_f (by decide) (f84 true (by cases y <;> rfl))
  · refine br_f (by decide) (br_f (by decide) ?_)
    cases x
    · exact br_t rfl (f84 false (by cases y <;> rfl))
    · cases y
      · exact br_f (by decide) (br_t rfl (f84 true rfl))
      · exact br_f (by decide) (br_f (by decide) (f84 false rfl))
theorem ys_chain {p far : Nat} (hp20 : p + 1 < 20) (hfar : far = 1 ∨ far = 3) {sa sb : Nat → Int32} {w1 w2 : Nat} (hsa : ∀ i, i < 12 → bSP (12 * (p + 1) + i) = sa i) (hsb : ∀ i, i < 12 → bSP (12 * p + i) = sb i)
    (h1 : bWT (p + 1) = nI w1) (h2 : bWT p = nI w2) {post : SY → Prop}
    (hp : ∀ KD SP : Nat → Int32, (∀ i, i < 12 → SP (12 * p + i) = sv_ch far (sa i) sb 12) → (∀ j, j < 12 * p → SP j = bSP j) → post (gdc, gsg, gnn, gpt, gkp, bN, bP, bL, bT, bS, bD, bV, bPT, bTK, bLN, KD, SP, upd bWT p (nI (w2 + w1)), bIS, bMA, bSC, bNN, bNC, bKN, bKS, bSH, bIH, bHS)) : wpY_chain post (gdc, gsg, gnn, gpt, gkp, bN, bP, bL, bT, bS, bD, bV, bPT, bTK, bLN, bKD, bSP, bWT, bIS, bMA, bSC, bNN, bNC, bKN, bKS, bSH, bIH, bHS) (nI (p + 1)) (nI far) := by
  have e1 : (nI (p + 1)).toNatClampNeg = p + 1 := nI_clamp (by omega)
  have e0 : (nI p).toNatClampNeg = p := nI_clamp (by omega)
  have hv1 : vp_in (nI (p + 1)) 20 := vp_in_nI hp20 (by omega)
  have hv0 : vp_in (nI p) 20 := vp_in_nI (by omega) (by omega)
  have l126 : ∀ K : Nat → Int32, (∀ i, i < 12 → K i = sv_ch far (sa i) sb 12) → ∀ m i, i + m = 12 → wY_chain_126 post (nI (p + 1)) gdc gsg gnn gpt gkp (m + 1) (nI i) bN bP bL bT bS bD bV bPT bTK bLN K (sd_cy bSP (12 * p) K 0 i) bWT bIS bMA bSC bNN bNC bKN bKS bSH bIH bHS := by
    intro K hK m
    induction m with
    | zero =>
      intro i h
      obtain rfl : i = 12 := by omega
      refine br_t (nI_le (b := 12) (Nat.le_refl _) (by decide)) ?_
      rw [nI_pred, e1, e0, h1, h2, nI_add]
      exact ⟨hv0, hv1, hv0, nm_e (hp K _ (fun i hi => by rw [sd_cy_in hi, Nat.zero_add]; exact hK i hi) (fun j hj => sd_cy_out (by omega)))⟩
    | succ m ih =>
      intro i h
      have I := ih (i + 1) (by omega)
      have e3 := sd_cy_s bSP (12 * p) K 0 i
      rw [Nat.zero_add] at e3
      refine br_f (nI_ge (b := 12) (by omega) (by decide)) ?_
      rw [nI_pred, sy_ix, nI_clamp (n := 12 * p + i) (by omega), nI_clamp (n := i) (by omega)]
      exact ⟨vp_in_nI (by omega) (by omega), vp_in_nI (by omega) (by omega), nm_r e3 (nm_r (nI_1 _) I)⟩
  have l67 : ∀ (J23 J32 : Int32 → (Nat → Int32) → (Nat → Int32) → (Nat → Int32) → (Nat → Int32) → (Nat → Int32) → (Nat → Int32) → (Nat → Int32) → (Nat → Int32) → (Nat → Int32) → (Nat → Int32) → (Nat → Int32) → (Nat → Int32) → (Nat → Int32) → (Nat → Int32) → (Nat → Int32) → (Nat → Int64) → (Nat → Int32) → (Nat → Int32) → (Nat → Int32) → (Nat → Int64) → (Nat → Int32) → (Nat → Int32) → (Nat → Int64) → Prop) (C : Nat → Int32) (i j : Nat) (acc : Int32), i < 12 → j < 12 →
      J32 (nI (j + 1)) bN bP bL bT bS bD bV bPT bTK bLN (upd C i (sv_or sb j acc (min far (11 - j)))) bSP bWT bIS bMA bSC bNN bNC bKN bKS bSH bIH bHS → ∀ m k, k + m = min far (11 - j) →
      wY_chain_67 post J23 J32 (nI (p + 1)) (nI far) (nI i) (nI j) gdc gsg gnn gpt gkp (m + 1) (nI (j + 1 + k)) bN bP bL bT bS bD bV bPT bTK bLN (upd C i (sv_or sb j acc k)) bSP bWT bIS bMA bSC bNN bNC bKN bKS bSH bIH bHS := by
    intro J23 J32 C i j acc hi hj hJ m
    induction m with
    | zero =>
      intro k hk
      have hk' : k = min far (11 - j) := by omega
      subst hk'
      show (nI j + nI far < _ → _) ∧ (¬ nI j + nI far < _ → _)
      rw [nI_add]
      rcases Nat.lt_or_ge (j + far) 12 with h | h
      · exact br_t (nI_lt (by omega) (by omega)) (nm_r (nI_1 _) hJ)
      · refine br_c (fun _ => nm_r (nI_1 _) hJ) (fun _ => br_t (nI_le (b := j + 1 + min far (11 - j)) (a := 12) (by omega) (by omega)) (nm_r (nI_1 _) hJ))
    | succ m ih =>
      intro k hk
      have I := ih (k + 1) (by omega)
      show (nI j + nI far < _ → _) ∧ (¬ nI j + nI far < _ → _)
      rw [nI_add]
      refine br_f (nI_nlt (by omega) (by omega)) (br_f (nI_ge (b := 12) (by omega) (by decide)) ?_)
      rw [nI_pred, sy_ix, nI_clamp (n := i) (by omega), nI_clamp (n := 12 * p + (j + 1 + k)) (by omega), pk_us, sy_uu, hsb _ (by omega)]
      exact ⟨vp_in_nI (by omega) (by omega), vp_in_nI (by omega) (by omega), vp_in_nI (by omega) (by omega), nm_e (nm_r (nI_1 _) I)⟩
  have l32 : ∀ (J23 : Int32 → (Nat → Int32) → (Nat → Int32) → (Nat → Int32) → (Nat → Int32) → (Nat → Int32) → (Nat → Int32) → (Nat → Int32) → (Nat → Int32) → (Nat → Int32) → (Nat → Int32) → (Nat → Int32) → (Nat → Int32) → (Nat → Int32) → (Nat → Int32) → (Nat → Int32) → (Nat → Int64) → (Nat → Int32) → (Nat → Int32) → (Nat → Int32) → (Nat → Int64) → (Nat → Int32) → (Nat → Int32) → (Nat → Int64) → Prop) (C : Nat → Int32) (i : Nat), i < 12 →
      J23 (nI (i + 1)) bN bP bL bT bS bD bV bPT bTK bLN (upd C i (sv_ch far (sa i) sb 12)) bSP bWT bIS bMA bSC bNN bNC bKN bKS bSH bIH bHS → ∀ m j, j + m = 12 →
      wY_chain_32 post J23 (nI (p + 1)) (nI far) (nI i) gdc gsg gnn gpt gkp (m + 1) (nI j) bN bP bL bT bS bD bV bPT bTK bLN (upd C i (sv_ch far (sa i) sb j)) bSP bWT bIS bMA bSC bNN bNC bKN bKS bSH bIH bHS := by
    intro J23 C i hi hJ m
    induction m with
    | zero =>
      intro j h
      obtain rfl : j = 12 := by omega
      exact br_t (nI_le (b := 12) (Nat.le_refl _) (by decide)) (nm_r (nI_1 _) hJ)
    | succ m ih =>
      intro j h
      have I := ih (j + 1) (by omega)
      refine br_f (nI_ge (b := 12) (by omega) (by decide)) ?_
      rw [sy_ix, nI_clamp (n := 12 * (p + 1) + i) (by omega), hsa i hi, sv_bit _ (show j < 32 by omega)]
      refine ⟨vp_in_nI (by omega) (by omega), ?_⟩
      have es : sv_ch far (sa i) sb (j + 1) = if bt (sa i) j = true then sv_or sb j (sv_ch far (sa i) sb j) (min far (11 - j)) else sv_ch far (sa i) sb j := rfl
      unfold sv_bn
      by_cases hb' : bt (sa i) j = true
      · rw [if_pos hb'] at es ⊢
        rw [es] at I
        refine br_f (by decide) (nm_r (nI_1 _) (Exists.intro (min far (11 - j) + 1) ?_))
        exact l67 J23 _ C i j _ hi (by omega) I (min far (11 - j)) 0 (Nat.zero_add _)
      · rw [if_neg hb'] at es ⊢
        rw [es] at I
        exact br_t rfl (nm_r (nI_1 _) I)
  have l23 : ∀ m i, i + m = 12 → wY_chain_23 post (nI (p + 1)) (nI far) gdc gsg gnn gpt gkp (m + 1) (nI i) bN bP bL bT bS bD bV bPT bTK bLN (sd_cy (sd_cy bKD 0 (fun _ => 0) 0 12) 0 (fun i => sv_ch far (sa i) sb 12) 0 i) bSP bWT bIS bMA bSC bNN bNC bKN bKS bSH bIH bHS := by
    intro m
    induction m with
    | zero =>
      intro i h
      obtain rfl : i = 12 := by omega
      refine br_t (nI_le (b := 12) (Nat.le_refl _) (by decide)) (Exists.intro 13 ?_)
      have L := l126 (sd_cy (sd_cy bKD 0 (fun _ => 0) 0 12) 0 (fun i => sv_ch far (sa i) sb 12) 0 12) (fun i hi => by
        have := sd_cy_in (a := sd_cy bKD 0 (fun _ => 0) 0 12) (b := 0) (s := fun i => sv_ch far (sa i) sb 12) (c := 0) hi
        rw [Nat.zero_add] at this
        exact this) 12 0 rfl
      rw [sd_cy_0] at L
      exact L
    | succ m ih =>
      intro i h
      have I := ih (i + 1) (by omega)
      have e3 := sd_cy_s (sd_cy bKD 0 (fun _ => 0) 0 12) 0 (fun i => sv_ch far (sa i) sb 12) 0 i
      rw [Nat.zero_add] at e3
      rw [← e3] at I
      refine br_f (nI_ge (b := 12) (by omega) (by decide)) (Exists.intro 13 ?_)
      have L := l32 _ _ i (by omega) I 12 0 rfl
      have ez : sd_cy (sd_cy bKD 0 (fun _ => 0) 0 12) 0 (fun i => sv_ch far (sa i) sb 12) 0 i i = 0 := by
        rw [sd_cy_out (by omega)]
        have := sd_cy_in (a := bKD) (b := 0) (s := fun _ => (0 : Int32)) (c := 0) (m := 12) (i := i) (by omega)
        rw [Nat.zero_add] at this
        exact this
      have eu := sy_u0 (sd_cy (sd_cy bKD 0 (fun _ => 0) 0 12) 0 (fun i => sv_ch far (sa i) sb 12) 0 i) i
      rw [ez] at eu
      have e4 : sv_ch far (sa i) sb 0 = 0 := rfl
      rw [e4, eu] at L
      exact L
  have l2 : ∀ m i, i + m = 12 → wY_chain_2 post (nI (p + 1)) (nI far) gdc gsg gnn gpt gkp (m + 1) (nI i) bN bP bL bT bS bD bV bPT bTK bLN (sd_cy bKD 0 (fun _ => 0) 0 i) bSP bWT bIS bMA bSC bNN bNC bKN bKS bSH bIH bHS := by
    intro m
    induction m with
    | zero =>
      intro i h
      obtain rfl : i = 12 := by omega
      have L := l23 12 0 rfl
      rw [sd_cy_0 (sd_cy bKD 0 (fun _ => 0) 0 12)] at L
      exact br_t (nI_le (b := 12) (Nat.le_refl _) (by decide)) (Exists.intro 13 L)
    | succ m ih =>
      intro i h
      have e3 := sd_cy_s bKD 0 (fun _ => 0) 0 i
      rw [Nat.zero_add] at e3
      refine br_f (nI_ge (b := 12) (by omega) (by decide)) ⟨vp_in_nI (by omega) (by omega), ?_⟩
      rw [nI_clamp (by omega)]
      exact nm_r e3 (nm_r (nI_1 _) (ih (i + 1) (by omega)))
  have k0 := l2 12 0 rfl
  rw [sd_cy_0] at k0
  exact Exists.intro 13 k0
end
