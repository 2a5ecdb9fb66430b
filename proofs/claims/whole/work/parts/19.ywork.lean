theorem sy_E_fr {IS MA SP WT IS' MA' SP' WT' : Nat → Int32} {SC SC' : Nat → Int64} {p : Nat} {v : sv_T} (h1 : IS' p = IS p) (h2 : MA' p = MA p) (h3 : SC' p = SC p) (h4 : WT' p = WT p) (h5 : ∀ i, i < 12 → SP' (12 * p + i) = SP (12 * p + i))
    (h : sy_E IS MA SP WT SC p v) : sy_E IS' MA' SP' WT' SC' p v :=
  ⟨by rw [h1]; exact h.1, fun z => ⟨by rw [h4]; exact (h.2.1 z).1, fun i hi => by rw [h5 i hi]; exact (h.2.1 z).2 i hi⟩, fun z => ⟨by rw [h2]; exact (h.2.2 z).1, by rw [h3]; exact (h.2.2 z).2⟩⟩
theorem sy_push {IS MA SP WT IS' MA' SP' WT' : Nat → Int32} {SC SC' : Nat → Int64} {st : List sv_T} {v : sv_T} (h : sy_R IS MA SP WT SC st) (hf : sy_F st.length IS MA SP WT SC IS' MA' SP' WT' SC') (he : sy_E IS' MA' SP' WT' SC' st.length v) : sy_R IS' MA' SP' WT' SC' (v :: st) := ⟨he, sy_R_fr hf h⟩
theorem sy_m1 {a : Nat} (h : a < 2 ^ 30) : nI a - 1 < nI a := by
  rw [Int32.lt_iff_toInt_lt]
  have h1 := pk_sub_toInt (a := a) (b := 1) h (by decide)
  have h2 := nI_toInt (n := a) (by omega)
  have h3 : nI a - 1 = nI a - nI 1 := rfl
  rw [h3, h1, h2]
  omega
theorem sy_16 (p : Nat) : 16 * nI p = nI (16 * p) := by
  show nI 16 * nI p = _
  rw [pk_mul]
section
variable {gdc gsg gnn gpt gkp : Int32} {bN bP bL bT bS bD bV bPT bTK bLN bKD bSP bWT bIS bMA bNN bNC bKN bSH bIH : Nat → Int32} {bSC bKS bHS : Nat → Int64}
theorem yk_work {d st dc li pr : Nat} {l : List Nat} (hd : d < 32) (hP : sd_P bS st dc) (hL : sd_L bL) (hpr : pr < 100) (hPr : bP d = nI pr) (hli : li < 6) (hl15 : l.length ≤ 15) (hln : bLN li = nI l.length) (hH : sr_H bTK (16 * li) l) (htk : sv_tks l) {kk : Bool} (hb : sq_b l = some [kk]) {post : SY → Prop}
    (hp : ∀ (KD SP WT IS MA : Nat → Int32) (SC : Nat → Int64), MA 0 = sg_B (sv_rm (sd_W bT bL st) (sv_own (sd_n bL d) st (sg_sm (sd_n bL) st)) (fun i => bT (12 * d + i)) (sd_n bL d) pr l) → SC 0 = lN (sv_rs (sd_W bT bL st) (sv_own (sd_n bL d) st (sg_sm (sd_n bL) st)) (fun i => bT (12 * d + i)) (sd_n bL d) pr l) →
      post (nI dc, gsg, gnn, gpt, gkp, bN, bP, bL, bT, bS, bD, bV, bPT, bTK, bLN, KD, SP, WT, IS, MA, SC, bNN, bNC, bKN, bKS, bSH, bIH, bHS)) :
    wpY_work post (nI dc, gsg, gnn, gpt, gkp, bN, bP, bL, bT, bS, bD, bV, bPT, bTK, bLN, bKD, bSP, bWT, bIS, bMA, bSC, bNN, bNC, bKN, bKS, bSH, bIH, bHS) (nI li) (nI d) := by
  have hst := hP.1
  have h32 := hP.2.1
  have hlen := (hL d).2
  have hLd := (hL d).1
  have ed : (nI d).toNatClampNeg = d := nI_clamp (by omega)
  have hW : ∀ w, w < 8 → sd_W bT bL st w ≤ 9 := fun w _ => sd_W_le _ _ (by omega) w
  generalize hown : sv_own (sd_n bL d) st (sg_sm (sd_n bL) st) = own at hp
  generalize hT : (fun i => bT (12 * d + i)) = T at hp
  generalize hWW : sd_W bT bL st = W at hp hW
  generalize hlen' : sd_n bL d = len at hp hlen hLd
  have key : ∀ i, i ≤ l.length → ∀ (KD SP WT IS MA : Nat → Int32) (SC : Nat → Int64), sy_R IS MA SP WT SC (sv_ev W own T len pr (l.drop i)) →
      wY_work_17 post (nI li) (nI d) (i + 1) (nI (sv_ev W own T len pr (l.drop i)).length) (nI (16 * li + i) - 1) (nI dc) gsg gnn gpt gkp bN bP bL bT bS bD bV bPT bTK bLN KD SP WT IS MA SC bNN bNC bKN bKS bSH bIH bHS := by
    intro i
    induction i with
    | zero =>
      intro _ KD SP WT IS MA SC hR
      rw [List.drop_zero] at hR
      obtain ⟨v, hv⟩ := sv_one (W := W) (own := own) (T := T) (len := len) (pr := pr) htk hb
      have hp' := hp KD SP WT
      unfold sv_rm sv_rs at hp'
      have hpt := sv_ev_pt (own := own) (T := T) (len := len) (pr := pr) hW l
      rw [hv] at hp' hR hpt
      have hpt' : 3 * v.2.2.1 + v.2.2.2.2 + 0 ≤ 27 * l.length := hpt
      refine br_t (by rw [sy_16]; exact sy_m1 (by omega)) ?_
      refine ys_set (p := 0) (v := v) (by omega) hd hP hL hR.1 (fun _ => by omega) ?_
      intro IS' MA' SC' hE _
      rw [hown] at hE
      have hE3 := hE.2.2 (sv_se_1 own v)
      rw [(sv_se_m own v).2, (sv_se_s own v).2] at hE3
      exact hp' IS' MA' SC' hE3.1 hE3.2
    | succ i ih =>
      intro hi KD SP WT IS MA SC hR
      have hdr := sr_drop (l := l) (i := i) (by omega)
      have hmem := sr_getD_mem (l := l) (i := i) (by omega)
      have hQ := hH i (by omega)
      obtain ⟨ks, hks⟩ := sq_b_drop hb i (by omega)
      have htd : sv_tks (l.drop i) := fun x hx => htk x (List.mem_of_mem_drop hx)
      have ht := htk _ hmem
      have ih' := ih (by omega)
      rw [hdr] at hks htd ih'
      generalize l.getD i 0 = t at hQ ht hks htd ih'
      generalize hrest : l.drop (i + 1) = rest at hR hks htd ih'
      have hlr : rest.length + (i + 1) = l.length := by rw [← hrest, List.length_drop]; omega
      have hsl : (sv_ev W own T len pr rest).length ≤ rest.length := by
        obtain ⟨ks0, hk0⟩ := sq_b_tail hks
        have := sv_kinds (W := W) (own := own) (T := T) (len := len) (pr := pr) (fun x hx => htd x (List.mem_cons_of_mem _ hx)) hk0
        have h2 := sq_b_len hk0
        rw [← this, List.length_map] at h2
        exact h2
      have hpt := sv_ev_pt (own := own) (T := T) (len := len) (pr := pr) hW rest
      have ht2 : t < 2 ^ 31 := by unfold sv_tk at ht; omega
      have ei : nI (16 * li + (i + 1)) - 1 = nI (16 * li + i) := nI_pred (16 * li + i)
      have em : nI (16 * li + i) + (-1) = nI (16 * li + i) - 1 := (Int32.sub_eq_add_neg _ _).symm
      rw [ei]
      refine br_f (by rw [sy_16]; exact nI_nlt (by omega) (by omega)) ⟨vp_in_nI (by omega) (by omega), ?_⟩
      rw [nI_clamp (by omega)]
      refine nm_r hQ ?_
      have est : sv_ev W own T len pr (t :: rest) = sv_st W own T len pr t (sv_ev W own T len pr rest) := rfl
      rw [est] at ih'
      by_cases hw : t < 8
      · refine br_f (nI_ge (b := 8) hw (by decide)) ?_
        have e2 : sv_st W own T len pr t (sv_ev W own T len pr rest) = (true, sv_wd T len t, W t, false, 0) :: sv_ev W own T len pr rest := by unfold sv_st; rw [if_pos hw]
        rw [e2] at ih'
        generalize sv_ev W own T len pr rest = E at hR hsl hpt ih'
        refine ys_begin (by omega) true ?_
        refine yr_rarity hP hL ?_
        rw [hWW]
        refine ⟨vp_in_nI (by omega) (by omega), ?_⟩
        rw [nI_clamp (by omega)]
        refine nm_e ?_
        have hS1 : ∀ i, i < 12 → sd_cy SP (12 * E.length) (fun _ => 0) 0 12 (12 * E.length + i) = 0 := fun i hi => sd_cy_in hi
        have l63 : ∀ m j, j + m = len → wY_work_63 post (wY_work_17 post (nI li) (nI d) (i + 1)) (nI li) (nI d) (nI E.length) (nI (16 * li + i)) (nI t) (nI dc) gsg gnn gpt gkp (m + 1) (nI j) bN bP bL bT bS bD bV bPT bTK bLN KD (sd_cy (sd_cy SP (12 * E.length) (fun _ => 0) 0 12) (12 * E.length) (sv_wd T len t) 0 j) (upd WT E.length (nI (W t))) (upd IS E.length (sg_B true)) MA SC bNN bNC bKN bKS bSH bIH bHS := by
          intro m
          induction m with
          | zero =>
            intro j hj
            obtain rfl : j = len := by omega
            refine ⟨vp_in_nI hd (by omega), ?_⟩
            rw [ed, hLd]
            refine br_t (nI_le (Nat.le_refl _) (by omega)) (nm_r (nI_1 _) (nm_r em (ih' _ _ _ _ _ _ (sy_push hR ?_ ⟨pk_us, fun _ => ⟨pk_us, ?_⟩, fun z => absurd (show true = false from z) (by decide)⟩))))
            · intro q hq
              refine ⟨pk_un (by omega), rfl, pk_un (by omega), rfl, fun i hi => ?_⟩
              rw [sd_cy_out (by omega), sd_cy_out (by omega)]
            · intro i hi
              rcases Nat.lt_or_ge i j with h | h
              · rw [sd_cy_in h, Nat.zero_add]
              · rw [sd_cy_out (by omega), hS1 i hi]
                show 0 = sv_wd T j t i
                unfold sv_wd
                rw [if_neg (by omega)]
          | succ m ihm =>
            intro j hj
            have I := ihm (j + 1) (by omega)
            have e3 := sd_cy_s (sd_cy SP (12 * E.length) (fun _ => 0) 0 12) (12 * E.length) (sv_wd T len t) 0 j
            rw [Nat.zero_add] at e3
            have eT : bT (12 * d + j) = T j := by rw [← hT]
            refine ⟨vp_in_nI hd (by omega), ?_⟩
            rw [ed, hLd]
            refine br_f (nI_ge (by omega) (by omega)) ?_
            rw [sy_ix, sy_ix, nI_clamp (n := 12 * d + j) (by omega), nI_clamp (n := 12 * E.length + j) (by omega), eT]
            refine ⟨vp_in_nI (by omega) (by omega), br_c (fun hc => ?_) (fun hc => ?_)⟩
            · have e4 : sv_wd T len t j = (1 : Int32) <<< (nI j &&& 31) := by unfold sv_wd; rw [if_pos ⟨by omega, hc⟩]
              rw [e4] at e3
              exact ⟨vp_in_nI (by omega) (by omega), nm_r e3 (nm_r (nI_1 _) I)⟩
            · have e4 : sv_wd T len t j = 0 := by unfold sv_wd; rw [if_neg (fun z => hc z.2)]
              have eu := sy_u0 (sd_cy (sd_cy SP (12 * E.length) (fun _ => 0) 0 12) (12 * E.length) (sv_wd T len t) 0 j) (12 * E.length + j)
              rw [sd_cy_out (by omega), hS1 j (by omega)] at eu
              rw [e4, eu] at e3
              rw [← e3] at I
              exact nm_r (nI_1 _) I
        have k63 := l63 len 0 (Nat.zero_add _)
        rw [sd_cy_0] at k63
        exact Exists.intro (len + 1) k63
      · refine br_t (nI_le (a := 8) (by omega) ht2) ?_
        by_cases hr : 1000 ≤ t
        · have ht3 : t < 11000 := by unfold sv_tk at ht; omega
          have e2 : sv_st W own T len pr t (sv_ev W own T len pr rest) = (false, fun _ => 0, 0, decide ((t - 1000) / 100 ≤ pr ∧ pr ≤ (t - 1000) % 100), 0) :: sv_ev W own T len pr rest := by unfold sv_st; rw [if_neg hw, if_pos hr]
          rw [e2] at ih'
          generalize sv_ev W own T len pr rest = E at hR hsl hpt ih'
          refine br_f (nI_nlt (b := 1000) hr ht2) ?_
          refine ys_begin (by omega) false ?_
          have es : nI t - 1000 = nI (t - 1000) := pk_sub (b := 1000) hr
          have eq : nI (t - 1000) / 100 = nI ((t - 1000) / 100) := pk_div (d := 100) (by omega) (by omega) (by omega)
          have er : nI (t - 1000) - nI (t - 1000) / 100 * 100 = nI ((t - 1000) % 100) := pk_rem (d := 100) (by omega) (by omega) (by omega)
          refine ⟨vp_in_nI hd (by omega), by decide, by decide, ?_⟩
          rw [ed, hPr, es, er, eq]
          have go : ∀ z : Bool, decide ((t - 1000) / 100 ≤ pr ∧ pr ≤ (t - 1000) % 100) = z → (fun r_190 : Int32 => (vp_in (nI E.length) 20 ∧ ∀ a_matches_192 : Nat → Int32, a_matches_192 = upd MA (nI E.length).toNatClampNeg (vp_nar .boolean r_190) → (vp_in (nI E.length) 20 ∧ ∀ a_scores_194 : Nat → Int64, a_scores_194 = vp_updL SC (nI E.length).toNatClampNeg 0 → (∀ x3_195 : Int32, x3_195 = nI E.length + 1 → (∀ x4_196 : Int32, x4_196 = nI (16 * li + i) + (-1) → wY_work_17 post (nI li) (nI d) (i + 1) x3_195 x4_196 (nI dc) gsg gnn gpt gkp bN bP bL bT bS bD bV bPT bTK bLN KD (sd_cy SP (12 * E.length) (fun _ => 0) 0 12) WT (upd IS E.length (sg_B false)) a_matches_192 a_scores_194 bNN bNC bKN bKS bSH bIH bHS))))) (sg_B z) := by
            intro z hz
            show vp_in (nI E.length) 20 ∧ _
            rw [nI_clamp (n := E.length) (by omega)]
            have hvE : vp_in (nI E.length) 20 := vp_in_nI (by omega) (by omega)
            refine ⟨hvE, nm_r (by rw [sx_nb (sg_B_01 z)]) ⟨hvE, nm_e (nm_r (nI_1 _) (nm_r em (ih' _ _ _ _ _ _ (sy_push hR ?_ ⟨pk_us, fun z => absurd (show false = true from z) (by decide), fun _ => ⟨?_, pk_uLs⟩⟩))))⟩⟩
            · intro q hq
              exact ⟨pk_un (by omega), pk_un (by omega), rfl, pk_uLn (by omega), fun i hi => sd_cy_out (by omega)⟩
            · rw [pk_us, hz]
          by_cases hin : (t - 1000) / 100 ≤ pr ∧ pr ≤ (t - 1000) % 100
          · exact yw_in1 (nI_nlt hin.1 (by omega)) (nI_nlt hin.2 (by omega)) (go true (decide_eq_true hin))
          · refine yw_in0 ?_ (go false (decide_eq_false hin))
            rcases Nat.lt_or_ge pr ((t - 1000) / 100) with h | h
            · exact Or.inl (nI_lt h (by omega))
            · exact Or.inr (nI_lt (by omega) (by omega))
        · have hj : 8 ≤ t ∧ t ≤ 12 := by unfold sv_tk at ht; omega
          obtain ⟨a, b, r, hE, hsp⟩ := sv_shape (W := W) (own := own) (T := T) (len := len) (pr := pr) htd hks hj
          have e2 : sv_st W own T len pr t (sv_ev W own T len pr rest) = sv_j own t a b :: r := by unfold sv_st; rw [if_neg hw, if_neg hr, hE]
          rw [e2] at ih'
          rw [hE] at hR hsl hpt ⊢
          rw [List.length_cons, List.length_cons] at hsl ⊢
          obtain ⟨ea, eb, hRr⟩ := hR
          rw [List.length_cons] at ea
          have hpt' : sv_pt (a :: b :: r) = 3 * a.2.2.1 + a.2.2.2.2 + (3 * b.2.2.1 + b.2.2.2.2 + sv_pt r) := rfl
          refine br_t (nI_lt (b := 1000) (by omega) (by decide)) (nm_r (pk_m1 _) ?_)
          by_cases hs : t = 11 ∨ t = 12
          · obtain ⟨ha1, hb1⟩ := hsp hs
            have e3 : sv_j own t a b = (true, fun i => sv_ch (if t = 11 then 1 else 3) (a.2.1 i) b.2.1 12, b.2.2.1 + a.2.2.1, false, 0) := by unfold sv_j; rw [if_pos (by omega)]
            rw [e3] at ih'
            refine br_f (nI_nlt (b := 11) (by omega) ht2) ?_
            have go : ∀ far : Nat, (far = 1 ∨ far = 3) → (if t = 11 then 1 else 3) = far → wY_work_203 post (wY_work_17 post (nI li) (nI d) (i + 1)) (nI li) (nI d) (nI (r.length + 1)) (nI (16 * li + i)) (nI far) (nI (r.length + 1)) (nI dc) gsg gnn gpt gkp bN bP bL bT bS bD bV bPT bTK bLN KD SP WT IS MA SC bNN bNC bKN bKS bSH bIH bHS := by
              intro far hfar hf2
              rw [hf2] at ih'
              refine ys_chain (sa := a.2.1) (sb := b.2.1) (w1 := a.2.2.1) (w2 := b.2.2.1) (by omega) hfar (ea.2.1 ha1).2 (eb.2.1 hb1).2 (ea.2.1 ha1).1 (eb.2.1 hb1).1 ?_
              intro KD' SP' hS1 hS2
              refine nm_r em (ih' _ _ _ _ _ _ (sy_push hRr ?_ ⟨?_, fun _ => ⟨pk_us, hS1⟩, fun z => absurd (show true = false from z) (by decide)⟩))
              · intro q hq
                exact ⟨rfl, rfl, pk_un (by omega), rfl, fun i hi => hS2 _ (by omega)⟩
              · rw [eb.1, hb1]
            by_cases h11 : t = 11
            · exact br_t (by rw [h11]; rfl) (go 1 (Or.inl rfl) (if_pos h11))
            · exact br_f (fun z => h11 ((nI_eq (b := 11) ht2 (by decide)).mp z)) (go 3 (Or.inr rfl) (if_neg h11))
          · have e3 : sv_j own t a b = (false, fun _ => 0, 0, sv_cm t (sv_mt a) (sv_mt b), if t = 10 then sv_ss own a else sv_ss own a + sv_ss own b) := by unfold sv_j; rw [if_neg (by omega)]
            rw [e3] at ih'
            refine br_t (nI_lt (b := 11) (by omega) (by decide)) ?_
            refine ys_set (p := r.length + 1) (v := a) (by omega) hd hP hL ea (fun _ => by omega) ?_
            intro IS1 MA1 SC1 hE1 hf1
            rw [hown] at hE1
            show wpY_settled _ _ (nI (r.length + 1) - 1) (nI d)
            rw [nI_pred]
            obtain ⟨f1, f2, f3⟩ := hf1 r.length (by omega)
            refine ys_set (p := r.length) (v := b) (by omega) hd hP hL (sy_E_fr f1 f2 f3 rfl (fun _ _ => rfl) eb) (fun _ => by omega) ?_
            intro IS2 MA2 SC2 hE2 hf2
            rw [hown] at hE2
            obtain ⟨g1, g2, g3⟩ := hf2 (r.length + 1) (by omega)
            have hEa := hE1.2.2 (sv_se_1 own a)
            rw [(sv_se_m own a).2, (sv_se_s own a).2] at hEa
            have hEb := hE2.2.2 (sv_se_1 own b)
            rw [(sv_se_m own b).2, (sv_se_s own b).2] at hEb
            have hIb := hE2.1
            rw [sv_se_1] at hIb
            refine ys_connect (p := r.length) (x := sv_mt a) (y := sv_mt b) (s1 := sv_ss own a) (s2 := sv_ss own b) (by omega) (by omega) (by rw [g2]; exact hEa.1) hEb.1 (by rw [g3]; exact hEa.2) hEb.2 ?_
            refine nm_r em (ih' _ _ _ _ _ _ (sy_push hRr ?_ ⟨hIb, fun z => absurd (show false = true from z) (by decide), fun _ => ⟨pk_us, pk_uLs⟩⟩))
            intro q hq
            obtain ⟨q1, q2, q3⟩ := hf1 q (by omega)
            obtain ⟨q4, q5, q6⟩ := hf2 q (by omega)
            exact ⟨by rw [q4, q1], by rw [pk_un (by omega), q5, q2], rfl, by rw [pk_uLn (by omega), q6, q3], fun _ _ => rfl⟩
  have k0 := key l.length (Nat.le_refl _) bKD bSP bWT bIS bMA bSC (by rw [List.drop_length]; exact trivial)
  rw [List.drop_length] at k0
  refine ⟨vp_in_nI hli (by omega), ?_⟩
  rw [nI_clamp (by omega), hln, sy_16, nI_add]
  exact nm_e (Exists.intro (l.length + 1) k0)
end
