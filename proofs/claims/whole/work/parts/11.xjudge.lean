theorem sq_shape {t : Nat} {ks0 ks : List Bool} (hj : 8 ≤ t ∧ t ≤ 12) (h : sq_bs t (some ks0) = some ks) : ∃ a b r, ks0 = a :: b :: r ∧ ((t = 11 ∨ t = 12) → a = true ∧ b = true) := by
  unfold sq_bs at h
  simp only at h
  rw [if_pos hj] at h
  match ks0, h with
  | a :: b :: r, h =>
    refine ⟨a, b, r, rfl, fun ht => ?_⟩
    have h6 : (if (t = 11 ∨ t = 12) ∧ ¬ (a = true ∧ b = true) then none else some (decide (t = 11 ∨ t = 12) :: r)) = some ks := h
    split at h6
    · exact absurd h6 (by simp)
    · rename_i hn
      exact Classical.byContradiction (fun z => hn ⟨ht, z⟩)
  | [a], h => exact absurd h (by simp)
  | [], h => exact absurd h (by simp)
theorem sv_shape {W : Nat → Nat} {own : Nat} {T : Nat → Int32} {len pr t : Nat} {l : List Nat} {ks : List Bool} (htk : sv_tks (t :: l)) (h : sq_b (t :: l) = some ks) (hj : 8 ≤ t ∧ t ≤ 12) :
    ∃ a b r, sv_ev W own T len pr l = a :: b :: r ∧ ((t = 11 ∨ t = 12) → a.1 = true ∧ b.1 = true) := by
  obtain ⟨ks0, h0⟩ := sq_b_tail h
  have h1 : sq_bs t (sq_b l) = some ks := h
  rw [h0] at h1
  obtain ⟨a, b, r, e, hs⟩ := sq_shape hj h1
  have hk := sv_kinds (W := W) (own := own) (T := T) (len := len) (pr := pr) (fun x hx => htk x (List.mem_cons_of_mem _ hx)) h0
  rw [e] at hk
  match sv_ev W own T len pr l, hk with
  | x :: y :: z, hk =>
    simp only [List.map_cons, List.cons.injEq] at hk
    refine ⟨x, y, z, rfl, fun ht => ?_⟩
    rw [hk.1, hk.2.1]; exact hs ht
  | [x], hk => exact absurd hk (by simp)
  | [], hk => exact absurd hk (by simp)
theorem xj_w1 {t : Nat} (h : t < 8) {post : Int32 → Prop} (hp : post 1) : wpX_isWord post (nI t) := br_f (nI_pos (by omega)) (br_f (nI_ge (b := 8) h (by decide)) hp)
theorem xj_w0 {t : Nat} (h : 8 ≤ t) (h2 : t < 2 ^ 31) {post : Int32 → Prop} (hp : post 0) : wpX_isWord post (nI t) := br_f (nI_pos h2) (br_t (nI_le (a := 8) h h2) hp)
theorem xj_r1 {t : Nat} (h : 1000 ≤ t) (h2 : t < 11000) {post : Int32 → Prop} (hp : post 1) : wpX_isRange post (nI t) := br_f (nI_nlt (b := 1000) h (by omega)) (br_f (nI_nlt (a := 10999) (by omega) (by decide)) hp)
theorem xj_r0 {t : Nat} (h : t < 1000) {post : Int32 → Prop} (hp : post 0) : wpX_isRange post (nI t) := br_t (nI_lt (b := 1000) h (by decide)) hp
theorem xj_s1 {t : Nat} (h : t = 11 ∨ t = 12) {post : Int32 → Prop} (hp : post 1) : wpX_isSpanJoin post (nI t) := by
  rcases h with rfl | rfl
  · exact br_t rfl hp
  · exact br_f (by decide) (br_t rfl hp)
theorem xj_s0 {t : Nat} (h : t < 2 ^ 31) (h1 : t ≠ 11) (h2 : t ≠ 12) {post : Int32 → Prop} (hp : post 0) : wpX_isSpanJoin post (nI t) :=
  br_f (fun z => h1 ((nI_eq (b := 11) h (by decide)).mp z)) (br_f (fun z => h2 ((nI_eq (b := 12) h (by decide)).mp z)) hp)
theorem xj_j1 {t : Nat} (h : 8 ≤ t) (h2 : t ≤ 12) {post : Int32 → Prop} (hp : post 1) : wpX_isJoin post (nI t) := br_f (nI_nlt (b := 8) h (by omega)) (br_f (nI_nlt (a := 12) h2 (by decide)) hp)
theorem xj_j0 {t : Nat} (h : t < 8 ∨ 12 < t) (h2 : t < 2 ^ 31) {post : Int32 → Prop} (hp : post 0) : wpX_isJoin post (nI t) := by
  rcases h with h | h
  · exact br_t (nI_lt (b := 8) h (by decide)) hp
  · exact br_f (nI_nlt (b := 8) (by omega) h2) (br_t (nI_lt (a := 12) h h2) hp)
theorem sv_tot0 {T : Nat → Int32} {s : Nat → Int32} (h : sv_so 0 s) : sv_ct s = 0 := sv_ct_0 (fun i hi => (h i hi).2 (Nat.zero_le _))
theorem sx_push {own : Nat} {M C V B M' C' V' B' : Nat → Int32} {st : List sv_T} {v : sv_T} (h : sx_R own M C V B st) (hf : sx_F st.length M C V B M' C' V' B') (he : sx_E own M' C' V' B' st.length v) : sx_R own M' C' V' B' (v :: st) := ⟨he, sx_R_fr hf h⟩
def sx_ans (b : Bool) (s : Nat) : Int32 := if b = true then nI s else -1
section
variable {fdc fnn fsg fpt fpq fsc fsl fhc : Int32} {aN aP aL aT aS aD aV aPT aPQ aLQ aI aM aC aW aB aG aHN aHS aHR aSH aWQ aWL aNN aNC : Nat → Int32}
theorem xj_pendingQuery {d st len tot pr fr : Nat} {l : List Nat} {W : Nat → Nat} (hd : d < 32) (hst : st ≤ 32) (hlen : len ≤ 12) (htot : tot ≤ 384) (hpr : pr < 100) (hL : aL d = nI len) (hP : aP d = nI pr)
    (hG : ∀ w, w < 8 → aG w = nI (W w)) (hW : ∀ w, w < 8 → W w ≤ 9) (h0 : tot = 0 → len = 0) (hl15 : l.length ≤ 15) (hfr : fr + l.length ≤ 12) (hH : sr_H aPQ fr l) (htk : sv_tks l) {kk : Bool} (hb : sq_b l = some [kk]) {post : Int32 → SX → Prop}
    (hp : ∀ M C V B : Nat → Int32, post (sx_ans (sv_rm W (sv_own len st tot) (fun i => aT (12 * d + i)) len pr l) (sv_rs W (sv_own len st tot) (fun i => aT (12 * d + i)) len pr l)) (fdc, fnn, fsg, fpt, fpq, nI st, nI tot, fhc, aN, aP, aL, aT, aS, aD, aV, aPT, aPQ, aLQ, aI, M, C, V, B, aG, aHN, aHS, aHR, aSH, aWQ, aWL, aNN, aNC)) :
    wpX_judge__pendingQuery post (fdc, fnn, fsg, fpt, fpq, nI st, nI tot, fhc, aN, aP, aL, aT, aS, aD, aV, aPT, aPQ, aLQ, aI, aM, aC, aW, aB, aG, aHN, aHS, aHR, aSH, aWQ, aWL, aNN, aNC) (nI fr) (nI l.length) (nI d) := by
  generalize hown : sv_own len st tot = own at hp
  generalize hT : (fun i => aT (12 * d + i)) = T at hp
  have key : ∀ i, i ≤ l.length → ∀ M C V B : Nat → Int32, sx_R own M C V B (sv_ev W own T len pr (l.drop i)) →
      wX_judge__pendingQuery_8 post (nI fr) (nI d) (i + 1) (nI (sv_ev W own T len pr (l.drop i)).length) (nI i - 1) fdc fnn fsg fpt fpq (nI st) (nI tot) fhc aN aP aL aT aS aD aV aPT aPQ aLQ aI M C V B aG aHN aHS aHR aSH aWQ aWL aNN aNC := by
    intro i
    induction i with
    | zero =>
      intro _ M C V B hR
      rw [List.drop_zero] at hR
      obtain ⟨v, hv⟩ := sv_one (W := W) (own := own) (T := T) (len := len) (pr := pr) htk hb
      have hp' := hp M C V B
      unfold sv_rm sv_rs at hp'
      rw [hv] at hp' hR
      obtain ⟨⟨e1, e2, _⟩, _⟩ := hR
      have e1' : M 0 = sg_B (sv_mt v) := e1
      have e2' : C 0 = nI (sv_ss own v) := e2
      have hp2 : post (sx_ans (sv_mt v) (sv_ss own v)) (fdc, fnn, fsg, fpt, fpq, nI st, nI tot, fhc, aN, aP, aL, aT, aS, aD, aV, aPT, aPQ, aLQ, aI, M, C, V, B, aG, aHN, aHS, aHR, aSH, aWQ, aWL, aNN, aNC) := hp'
      refine br_t (by decide) ?_
      rw [e1', e2']
      cases hm : sv_mt v with
      | true =>
        rw [hm] at hp2
        exact br_f (by decide) hp2
      | false =>
        rw [hm] at hp2
        exact br_t rfl hp2
    | succ i ih =>
      intro hi M C V B hR
      have hdr := sr_drop (l := l) (i := i) (by omega)
      have hmem := sr_getD_mem (l := l) (i := i) (by omega)
      have hQ := hH i (by omega)
      have hbd := sq_b_drop hb i (by omega)
      obtain ⟨ks, hks⟩ := hbd
      have htd : sv_tks (l.drop i) := fun x hx => htk x (List.mem_of_mem_drop hx)
      have ht := htk _ hmem
      have ih' := ih (by omega)
      rw [hdr] at hks htd ih'
      generalize l.getD i 0 = t at hQ ht hks htd ih'
      generalize hrest : l.drop (i + 1) = rest at hR hks htd ih'
      have hlr : rest.length + (i + 1) = l.length := by rw [← hrest, List.length_drop]; omega
      have hsl : (sv_ev W own T len pr rest).length ≤ rest.length := by
        obtain ⟨ks0, hk0⟩ := sq_b_tail hks
        have := sv_kinds (W := W) (own := own) (T := T) (len := len) (pr := pr) (fun x hx => htd x (List.mem_cons_of_mem _ hx)) hk0
        have h2 := sq_b_len hk0
        rw [← this, List.length_map] at h2
        exact h2
      have hpt := sv_ev_pt (own := own) (T := T) (len := len) (pr := pr) hW rest
      have hso := sv_ev_so (W := W) (own := own) (T := T) (len := len) (pr := pr) rest
      have ht2 : t < 2 ^ 31 := by unfold sv_tk at ht; omega
      rw [nI_pred]
      refine br_f (nI_pos (by omega)) ⟨by rw [nI_add]; exact vp_in_nI (by omega) (by omega), ?_⟩
      rw [nI_add, nI_clamp (by omega)]
      refine nm_r hQ ?_
      have em : nI i + (-1) = nI i - 1 := (Int32.sub_eq_add_neg _ _).symm
      have est : sv_ev W own T len pr (t :: rest) = sv_st W own T len pr t (sv_ev W own T len pr rest) := rfl
      rw [est] at ih'
      by_cases hw : t < 8
      · refine xj_w1 hw (br_f (by decide) ?_)
        have e2 : sv_st W own T len pr t (sv_ev W own T len pr rest) = (true, sv_wd T len t, W t, false, 0) :: sv_ev W own T len pr rest := by unfold sv_st; rw [if_pos hw]
        rw [e2] at ih'
        generalize sv_ev W own T len pr rest = E at hR hsl hpt hso ih'
        refine xs_word (by omega) hd hw hlen hL ?_
        rw [hT]
        refine xs_score (w := W t) (s := sv_wd T len t) (by omega) hd hst hlen htot (by have := hW t hw; omega) hL (by rw [pk_us]; exact hG t hw) (fun i hi => by rw [sd_cy_in hi, Nat.zero_add]) (fun hz => by
          have hl0 := h0 hz
          subst hl0
          exact sv_tot0 (T := T) (sv_wd_so T 0 t)) ?_
        intro C' hC1 hC2
        refine nm_r (nI_1 _) (nm_r em (ih' _ _ _ _ (sx_push hR ?_ ⟨?_, ?_, fun _ => ⟨?_, ?_⟩⟩)))
        · intro p hp3
          refine ⟨pk_un (by omega), hC2 p (by omega), pk_un (by omega), fun i hi => sd_cy_out (by omega)⟩
        · rw [pk_us]; rfl
        · rw [hC1, hown]; rfl
        · rw [pk_us]; exact hG t hw
        · intro i hi
          rw [sd_cy_in hi, Nat.zero_add]
      · refine xj_w0 (by omega) ht2 (br_t rfl ?_)
        by_cases hr : 1000 ≤ t
        · have ht3 : t < 11000 := by unfold sv_tk at ht; omega
          refine xj_r1 hr ht3 (br_f (by decide) ?_)
          have e2 : sv_st W own T len pr t (sv_ev W own T len pr rest) = (false, fun _ => 0, 0, decide ((t - 1000) / 100 ≤ pr ∧ pr ≤ (t - 1000) % 100), 0) :: sv_ev W own T len pr rest := by unfold sv_st; rw [if_neg hw, if_pos hr]
          rw [e2] at ih'
          generalize sv_ev W own T len pr rest = E at hR hsl hpt hso ih'
          refine xs_range (by omega) hd hr ht3 hpr hP ?_
          refine nm_r (nI_1 _) (nm_r em (ih' _ _ _ _ (sx_push hR ?_ ⟨?_, ?_, fun z => absurd (show false = true from z) (by decide)⟩)))
          · intro p hp3
            exact ⟨pk_un (by omega), pk_un (by omega), rfl, fun i hi => rfl⟩
          · rw [pk_us]; rfl
          · rw [pk_us]; rfl
        · have hj : 8 ≤ t ∧ t ≤ 12 := by unfold sv_tk at ht; omega
          refine xj_r0 (by omega) (br_t rfl ?_)
          obtain ⟨a, b, r, hE, hsp⟩ := sv_shape (W := W) (own := own) (T := T) (len := len) (pr := pr) htd hks hj
          have e2 : sv_st W own T len pr t (sv_ev W own T len pr rest) = sv_j own t a b :: r := by unfold sv_st; rw [if_neg hw, if_neg hr, hE]
          rw [e2] at ih'
          rw [hE] at hR hsl hpt hso ⊢
          rw [List.length_cons, List.length_cons] at hsl ⊢
          obtain ⟨ea, eb, hRr⟩ := hR
          rw [List.length_cons] at ea
          have hpt' : sv_pt (a :: b :: r) = 3 * a.2.2.1 + a.2.2.2.2 + (3 * b.2.2.1 + b.2.2.2.2 + sv_pt r) := rfl
          refine br_f (nI_nlt (b := 2) (by omega) (by omega)) (nm_r (pk_m1 _) ?_)
          rw [nI_pred]
          by_cases hs : t = 11 ∨ t = 12
          · refine xj_s1 hs (br_f (by decide) ?_)
            obtain ⟨ha1, hb1⟩ := hsp hs
            obtain ⟨hsa, hsb, _⟩ := hso
            have e3 : sv_j own t a b = (true, fun i => sv_ch (if t = 11 then 1 else 3) (a.2.1 i) b.2.1 12, b.2.2.1 + a.2.2.1, false, 0) := by unfold sv_j; rw [if_pos (by omega)]
            have hso2 := sv_j_so (own := own) (t := t) hsa hsb
            rw [e3] at ih' hso2
            have go : ∀ far : Nat, (far = 1 ∨ far = 3) → (if t = 11 then 1 else 3) = far → wX_judge__pendingQuery_113 post (wX_judge__pendingQuery_8 post (nI fr) (nI d) (i + 1)) (nI fr) (nI d) (nI (r.length + 1)) (nI i) (nI far) (nI r.length) (nI (r.length + 1)) fdc fnn fsg fpt fpq (nI st) (nI tot) fhc aN aP aL aT aS aD aV aPT aPQ aLQ aI M C V B aG aHN aHS aHR aSH aWQ aWL aNN aNC := by
              intro far hfar hf2
              rw [hf2] at ih' hso2
              refine xs_js (sa := a.2.1) (sb := b.2.1) (w1 := a.2.2.1) (w2 := b.2.2.1) (by omega) (by omega) (by omega) hfar (ea.2.2 ha1).2 (eb.2.2 hb1).2 (fun i hi => (hsa i hi).1) (ea.2.2 ha1).1 (eb.2.2 hb1).1 ?_
              show wpX_scoreSpans _ _ (nI (r.length + 1) - 1) (nI d)
              rw [nI_pred]
              refine xs_score (w := b.2.2.1 + a.2.2.1) (s := fun i => sv_ch far (a.2.1 i) b.2.1 12) (by omega) hd hst hlen htot (by omega) hL pk_us (fun i hi => by rw [sd_cy_in hi, Nat.zero_add]) (fun hz => by
                have hl0 := h0 hz
                subst hl0
                exact sv_tot0 (T := T) hso2) ?_
              intro C' hC1 hC2
              refine nm_r em (ih' _ _ _ _ (sx_push hRr ?_ ⟨?_, ?_, fun _ => ⟨pk_us, ?_⟩⟩))
              · intro p hp3
                exact ⟨pk_un (by omega), hC2 p (by omega), pk_un (by omega), fun i hi => sd_cy_out (by omega)⟩
              · rw [pk_us]; rfl
              · rw [hC1, hown]; rfl
              · intro i hi
                rw [sd_cy_in hi, Nat.zero_add]
            by_cases h11 : t = 11
            · exact br_t (by rw [h11]; rfl) (go 1 (Or.inl rfl) (if_pos h11))
            · exact br_f (fun z => h11 ((nI_eq (b := 11) ht2 (by decide)).mp z)) (go 3 (Or.inr rfl) (if_neg h11))
          · refine xj_s0 ht2 (by omega) (by omega) (br_t rfl ?_)
            have e3 : sv_j own t a b = (false, fun _ => 0, 0, sv_cm t (sv_mt a) (sv_mt b), if t = 10 then sv_ss own a else sv_ss own a + sv_ss own b) := by unfold sv_j; rw [if_neg (by omega)]
            rw [e3] at ih'
            refine xs_jm (a := r.length + 1) (b := r.length) (x := sv_mt a) (y := sv_mt b) (s1 := sv_ss own a) (s2 := sv_ss own b) (by omega) (by omega) (by omega) ea.1 eb.1 ea.2.1 eb.2.1 ?_
            refine nm_r em (ih' _ _ _ _ (sx_push hRr ?_ ⟨?_, ?_, fun z => absurd (show false = true from z) (by decide)⟩))
            · intro p hp3
              exact ⟨pk_un (by omega), pk_un (by omega), rfl, fun i hi => rfl⟩
            · rw [pk_us]; rfl
            · rw [pk_us]; rfl
  have k0 := key l.length (Nat.le_refl _) aM aC aW aB (by rw [List.drop_length]; exact trivial)
  rw [List.drop_length] at k0
  exact nm_e (Exists.intro (l.length + 1) k0)
end
section
variable {fdc fnn fsg fpt fpq fsc fsl fhc : Int32} {aN aP aL aT aS aD aV aPT aPQ aLQ aI aM aC aW aB aG aHN aHS aHR aSH aWQ aWL aNN aNC : Nat → Int32}
theorem xj_likeQuery {d st len tot pr fr : Nat} {l : List Nat} {W : Nat → Nat} (hd : d < 32) (hst : st ≤ 32) (hlen : len ≤ 12) (htot : tot ≤ 384) (hpr : pr < 100) (hL : aL d = nI len) (hP : aP d = nI pr)
    (hG : ∀ w, w < 8 → aG w = nI (W w)) (hW : ∀ w, w < 8 → W w ≤ 9) (h0 : tot = 0 → len = 0) (hl15 : l.length ≤ 15) (hfr : fr + l.length ≤ 15) (hH : sr_H aLQ fr l) (htk : sv_tks l) {kk : Bool} (hb : sq_b l = some [kk]) {post : Int32 → SX → Prop}
    (hp : ∀ M C V B : Nat → Int32, post (sx_ans (sv_rm W (sv_own len st tot) (fun i => aT (12 * d + i)) len pr l) (sv_rs W (sv_own len st tot) (fun i => aT (12 * d + i)) len pr l)) (fdc, fnn, fsg, fpt, fpq, nI st, nI tot, fhc, aN, aP, aL, aT, aS, aD, aV, aPT, aPQ, aLQ, aI, M, C, V, B, aG, aHN, aHS, aHR, aSH, aWQ, aWL, aNN, aNC)) :
    wpX_judge__likeQuery post (fdc, fnn, fsg, fpt, fpq, nI st, nI tot, fhc, aN, aP, aL, aT, aS, aD, aV, aPT, aPQ, aLQ, aI, aM, aC, aW, aB, aG, aHN, aHS, aHR, aSH, aWQ, aWL, aNN, aNC) (nI fr) (nI l.length) (nI d) := by
  generalize hown : sv_own len st tot = own at hp
  generalize hT : (fun i => aT (12 * d + i)) = T at hp
  have key : ∀ i, i ≤ l.length → ∀ M C V B : Nat → Int32, sx_R own M C V B (sv_ev W own T len pr (l.drop i)) →
      wX_judge__likeQuery_8 post (nI fr) (nI d) (i + 1) (nI (sv_ev W own T len pr (l.drop i)).length) (nI i - 1) fdc fnn fsg fpt fpq (nI st) (nI tot) fhc aN aP aL aT aS aD aV aPT aPQ aLQ aI M C V B aG aHN aHS aHR aSH aWQ aWL aNN aNC := by
    intro i
    induction i with
    | zero =>
      intro _ M C V B hR
      rw [List.drop_zero] at hR
      obtain ⟨v, hv⟩ := sv_one (W := W) (own := own) (T := T) (len := len) (pr := pr) htk hb
      have hp' := hp M C V B
      unfold sv_rm sv_rs at hp'
      rw [hv] at hp' hR
      obtain ⟨⟨e1, e2, _⟩, _⟩ := hR
      have e1' : M 0 = sg_B (sv_mt v) := e1
      have e2' : C 0 = nI (sv_ss own v) := e2
      have hp2 : post (sx_ans (sv_mt v) (sv_ss own v)) (fdc, fnn, fsg, fpt, fpq, nI st, nI tot, fhc, aN, aP, aL, aT, aS, aD, aV, aPT, aPQ, aLQ, aI, M, C, V, B, aG, aHN, aHS, aHR, aSH, aWQ, aWL, aNN, aNC) := hp'
      refine br_t (by decide) ?_
      rw [e1', e2']
      cases hm : sv_mt v with
      | true =>
        rw [hm] at hp2
        exact br_f (by decide) hp2
      | false =>
        rw [hm] at hp2
        exact br_t rfl hp2
    | succ i ih =>
      intro hi M C V B hR
      have hdr := sr_drop (l := l) (i := i) (by omega)
      have hmem := sr_getD_mem (l := l) (i := i) (by omega)
      have hQ := hH i (by omega)
      have hbd := sq_b_drop hb i (by omega)
      obtain ⟨ks, hks⟩ := hbd
      have htd : sv_tks (l.drop i) := fun x hx => htk x (List.mem_of_mem_drop hx)
      have ht := htk _ hmem
      have ih' := ih (by omega)
      rw [hdr] at hks htd ih'
      generalize l.getD i 0 = t at hQ ht hks htd ih'
      generalize hrest : l.drop (i + 1) = rest at hR hks htd ih'
      have hlr : rest.length + (i + 1) = l.length := by rw [← hrest, List.length_drop]; omega
      have hsl : (sv_ev W own T len pr rest).length ≤ rest.length := by
        obtain ⟨ks0, hk0⟩ := sq_b_tail hks
        have := sv_kinds (W := W) (own := own) (T := T) (len := len) (pr := pr) (fun x hx => htd x (List.mem_cons_of_mem _ hx)) hk0
        have h2 := sq_b_len hk0
        rw [← this, List.length_map] at h2
        exact h2
      have hpt := sv_ev_pt (own := own) (T := T) (len := len) (pr := pr) hW rest
      have hso := sv_ev_so (W := W) (own := own) (T := T) (len := len) (pr := pr) rest
      have ht2 : t < 2 ^ 31 := by unfold sv_tk at ht; omega
      rw [nI_pred]
      refine br_f (nI_pos (by omega)) ⟨by rw [nI_add]; exact vp_in_nI (by omega) (by omega), ?_⟩
      rw [nI_add, nI_clamp (by omega)]
      refine nm_r hQ ?_
      have em : nI i + (-1) = nI i - 1 := (Int32.sub_eq_add_neg _ _).symm
      have est : sv_ev W own T len pr (t :: rest) = sv_st W own T len pr t (sv_ev W own T len pr rest) := rfl
      rw [est] at ih'
      by_cases hw : t < 8
      · refine xj_w1 hw (br_f (by decide) ?_)
        have e2 : sv_st W own T len pr t (sv_ev W own T len pr rest) = (true, sv_wd T len t, W t, false, 0) :: sv_ev W own T len pr rest := by unfold sv_st; rw [if_pos hw]
        rw [e2] at ih'
        generalize sv_ev W own T len pr rest = E at hR hsl hpt hso ih'
        refine xs_word (by omega) hd hw hlen hL ?_
        rw [hT]
        refine xs_score (w := W t) (s := sv_wd T len t) (by omega) hd hst hlen htot (by have := hW t hw; omega) hL (by rw [pk_us]; exact hG t hw) (fun i hi => by rw [sd_cy_in hi, Nat.zero_add]) (fun hz => by
          have hl0 := h0 hz
          subst hl0
          exact sv_tot0 (T := T) (sv_wd_so T 0 t)) ?_
        intro C' hC1 hC2
        refine nm_r (nI_1 _) (nm_r em (ih' _ _ _ _ (sx_push hR ?_ ⟨?_, ?_, fun _ => ⟨?_, ?_⟩⟩)))
        · intro p hp3
          refine ⟨pk_un (by omega), hC2 p (by omega), pk_un (by omega), fun i hi => sd_cy_out (by omega)⟩
        · rw [pk_us]; rfl
        · rw [hC1, hown]; rfl
        · rw [pk_us]; exact hG t hw
        · intro i hi
          rw [sd_cy_in hi, Nat.zero_add]
      · refine xj_w0 (by omega) ht2 (br_t rfl ?_)
        by_cases hr : 1000 ≤ t
        · have ht3 : t < 11000 := by unfold sv_tk at ht; omega
          refine xj_r1 hr ht3 (br_f (by decide) ?_)
          have e2 : sv_st W own T len pr t (sv_ev W own T len pr rest) = (false, fun _ => 0, 0, decide ((t - 1000) / 100 ≤ pr ∧ pr ≤ (t - 1000) % 100), 0) :: sv_ev W own T len pr rest := by unfold sv_st; rw [if_neg hw, if_pos hr]
          rw [e2] at ih'
          generalize sv_ev W own T len pr rest = E at hR hsl hpt hso ih'
          refine xs_range (by omega) hd hr ht3 hpr hP ?_
          refine nm_r (nI_1 _) (nm_r em (ih' _ _ _ _ (sx_push hR ?_ ⟨?_, ?_, fun z => absurd (show false = true from z) (by decide)⟩)))
          · intro p hp3
            exact ⟨pk_un (by omega), pk_un (by omega), rfl, fun i hi => rfl⟩
          · rw [pk_us]; rfl
          · rw [pk_us]; rfl
        · have hj : 8 ≤ t ∧ t ≤ 12 := by unfold sv_tk at ht; omega
          refine xj_r0 (by omega) (br_t rfl ?_)
          obtain ⟨a, b, r, hE, hsp⟩ := sv_shape (W := W) (own := own) (T := T) (len := len) (pr := pr) htd hks hj
          have e2 : sv_st W own T len pr t (sv_ev W own T len pr rest) = sv_j own t a b :: r := by unfold sv_st; rw [if_neg hw, if_neg hr, hE]
          rw [e2] at ih'
          rw [hE] at hR hsl hpt hso ⊢
          rw [List.length_cons, List.length_cons] at hsl ⊢
          obtain ⟨ea, eb, hRr⟩ := hR
          rw [List.length_cons] at ea
          have hpt' : sv_pt (a :: b :: r) = 3 * a.2.2.1 + a.2.2.2.2 + (3 * b.2.2.1 + b.2.2.2.2 + sv_pt r) := rfl
          refine br_f (nI_nlt (b := 2) (by omega) (by omega)) (nm_r (pk_m1 _) ?_)
          rw [nI_pred]
          by_cases hs : t = 11 ∨ t = 12
          · refine xj_s1 hs (br_f (by decide) ?_)
            obtain ⟨ha1, hb1⟩ := hsp hs
            obtain ⟨hsa, hsb, _⟩ := hso
            have e3 : sv_j own t a b = (true, fun i => sv_ch (if t = 11 then 1 else 3) (a.2.1 i) b.2.1 12, b.2.2.1 + a.2.2.1, false, 0) := by unfold sv_j; rw [if_pos (by omega)]
            have hso2 := sv_j_so (own := own) (t := t) hsa hsb
            rw [e3] at ih' hso2
            have go : ∀ far : Nat, (far = 1 ∨ far = 3) → (if t = 11 then 1 else 3) = far → wX_judge__likeQuery_113 post (wX_judge__likeQuery_8 post (nI fr) (nI d) (i + 1)) (nI fr) (nI d) (nI (r.length + 1)) (nI i) (nI far) (nI r.length) (nI (r.length + 1)) fdc fnn fsg fpt fpq (nI st) (nI tot) fhc aN aP aL aT aS aD aV aPT aPQ aLQ aI M C V B aG aHN aHS aHR aSH aWQ aWL aNN aNC := by
              intro far hfar hf2
              rw [hf2] at ih' hso2
              refine xs_js (sa := a.2.1) (sb := b.2.1) (w1 := a.2.2.1) (w2 := b.2.2.1) (by omega) (by omega) (by omega) hfar (ea.2.2 ha1).2 (eb.2.2 hb1).2 (fun i hi => (hsa i hi).1) (ea.2.2 ha1).1 (eb.2.2 hb1).1 ?_
              show wpX_scoreSpans _ _ (nI (r.length + 1) - 1) (nI d)
              rw [nI_pred]
              refine xs_score (w := b.2.2.1 + a.2.2.1) (s := fun i => sv_ch far (a.2.1 i) b.2.1 12) (by omega) hd hst hlen htot (by omega) hL pk_us (fun i hi => by rw [sd_cy_in hi, Nat.zero_add]) (fun hz => by
                have hl0 := h0 hz
                subst hl0
                exact sv_tot0 (T := T) hso2) ?_
              intro C' hC1 hC2
              refine nm_r em (ih' _ _ _ _ (sx_push hRr ?_ ⟨?_, ?_, fun _ => ⟨pk_us, ?_⟩⟩))
              · intro p hp3
                exact ⟨pk_un (by omega), hC2 p (by omega), pk_un (by omega), fun i hi => sd_cy_out (by omega)⟩
              · rw [pk_us]; rfl
              · rw [hC1, hown]; rfl
              · intro i hi
                rw [sd_cy_in hi, Nat.zero_add]
            by_cases h11 : t = 11
            · exact br_t (by rw [h11]; rfl) (go 1 (Or.inl rfl) (if_pos h11))
            · exact br_f (fun z => h11 ((nI_eq (b := 11) ht2 (by decide)).mp z)) (go 3 (Or.inr rfl) (if_neg h11))
          · refine xj_s0 ht2 (by omega) (by omega) (br_t rfl ?_)
            have e3 : sv_j own t a b = (false, fun _ => 0, 0, sv_cm t (sv_mt a) (sv_mt b), if t = 10 then sv_ss own a else sv_ss own a + sv_ss own b) := by unfold sv_j; rw [if_neg (by omega)]
            rw [e3] at ih'
            refine xs_jm (a := r.length + 1) (b := r.length) (x := sv_mt a) (y := sv_mt b) (s1 := sv_ss own a) (s2 := sv_ss own b) (by omega) (by omega) (by omega) ea.1 eb.1 ea.2.1 eb.2.1 ?_
            refine nm_r em (ih' _ _ _ _ (sx_push hRr ?_ ⟨?_, ?_, fun z => absurd (show false = true from z) (by decide)⟩))
            · intro p hp3
              exact ⟨pk_un (by omega), pk_un (by omega), rfl, fun i hi => rfl⟩
            · rw [pk_us]; rfl
            · rw [pk_us]; rfl
  have k0 := key l.length (Nat.le_refl _) aM aC aW aB (by rw [List.drop_length]; exact trivial)
  rw [List.drop_length] at k0
  exact nm_e (Exists.intro (l.length + 1) k0)
end
section
variable {fdc fnn fsg fpt fpq fsc fsl fhc : Int32} {aN aP aL aT aS aD aV aPT aPQ aLQ aI aM aC aW aB aG aHN aHS aHR aSH aWQ aWL aNN aNC : Nat → Int32}
theorem xj_watchQuery {d st len tot pr fr : Nat} {l : List Nat} {W : Nat → Nat} (hd : d < 32) (hst : st ≤ 32) (hlen : len ≤ 12) (htot : tot ≤ 384) (hpr : pr < 100) (hL : aL d = nI len) (hP : aP d = nI pr)
    (hG : ∀ w, w < 8 → aG w = nI (W w)) (hW : ∀ w, w < 8 → W w ≤ 9) (h0 : tot = 0 → len = 0) (hl15 : l.length ≤ 15) (hfr : fr + l.length ≤ 48) (hH : sr_H aWQ fr l) (htk : sv_tks l) {kk : Bool} (hb : sq_b l = some [kk]) {post : Int32 → SX → Prop}
    (hp : ∀ M C V B : Nat → Int32, post (sx_ans (sv_rm W (sv_own len st tot) (fun i => aT (12 * d + i)) len pr l) (sv_rs W (sv_own len st tot) (fun i => aT (12 * d + i)) len pr l)) (fdc, fnn, fsg, fpt, fpq, nI st, nI tot, fhc, aN, aP, aL, aT, aS, aD, aV, aPT, aPQ, aLQ, aI, M, C, V, B, aG, aHN, aHS, aHR, aSH, aWQ, aWL, aNN, aNC)) :
    wpX_judge__watchQuery post (fdc, fnn, fsg, fpt, fpq, nI st, nI tot, fhc, aN, aP, aL, aT, aS, aD, aV, aPT, aPQ, aLQ, aI, aM, aC, aW, aB, aG, aHN, aHS, aHR, aSH, aWQ, aWL, aNN, aNC) (nI fr) (nI l.length) (nI d) := by
  generalize hown : sv_own len st tot = own at hp
  generalize hT : (fun i => aT (12 * d + i)) = T at hp
  have key : ∀ i, i ≤ l.length → ∀ M C V B : Nat → Int32, sx_R own M C V B (sv_ev W own T len pr (l.drop i)) →
      wX_judge__watchQuery_8 post (nI fr) (nI d) (i + 1) (nI (sv_ev W own T len pr (l.drop i)).length) (nI i - 1) fdc fnn fsg fpt fpq (nI st) (nI tot) fhc aN aP aL aT aS aD aV aPT aPQ aLQ aI M C V B aG aHN aHS aHR aSH aWQ aWL aNN aNC := by
    intro i
    induction i with
    | zero =>
      intro _ M C V B hR
      rw [List.drop_zero] at hR
      obtain ⟨v, hv⟩ := sv_one (W := W) (own := own) (T := T) (len := len) (pr := pr) htk hb
      have hp' := hp M C V B
      unfold sv_rm sv_rs at hp'
      rw [hv] at hp' hR
      obtain ⟨⟨e1, e2, _⟩, _⟩ := hR
      have e1' : M 0 = sg_B (sv_mt v) := e1
      have e2' : C 0 = nI (sv_ss own v) := e2
      have hp2 : post (sx_ans (sv_mt v) (sv_ss own v)) (fdc, fnn, fsg, fpt, fpq, nI st, nI tot, fhc, aN, aP, aL, aT, aS, aD, aV, aPT, aPQ, aLQ, aI, M, C, V, B, aG, aHN, aHS, aHR, aSH, aWQ, aWL, aNN, aNC) := hp'
      refine br_t (by decide) ?_
      rw [e1', e2']
      cases hm : sv_mt v with
      | true =>
        rw [hm] at hp2
        exact br_f (by decide) hp2
      | false =>
        rw [hm] at hp2
        exact br_t rfl hp2
    | succ i ih =>
      intro hi M C V B hR
      have hdr := sr_drop (l := l) (i := i) (by omega)
      have hmem := sr_getD_mem (l := l) (i := i) (by omega)
      have hQ := hH i (by omega)
      have hbd := sq_b_drop hb i (by omega)
      obtain ⟨ks, hks⟩ := hbd
      have htd : sv_tks (l.drop i) := fun x hx => htk x (List.mem_of_mem_drop hx)
      have ht := htk _ hmem
      have ih' := ih (by omega)
      rw [hdr] at hks htd ih'
      generalize l.getD i 0 = t at hQ ht hks htd ih'
      generalize hrest : l.drop (i + 1) = rest at hR hks htd ih'
      have hlr : rest.length + (i + 1) = l.length := by rw [← hrest, List.length_drop]; omega
      have hsl : (sv_ev W own T len pr rest).length ≤ rest.length := by
        obtain ⟨ks0, hk0⟩ := sq_b_tail hks
        have := sv_kinds (W := W) (own := own) (T := T) (len := len) (pr := pr) (fun x hx => htd x (List.mem_cons_of_mem _ hx)) hk0
        have h2 := sq_b_len hk0
        rw [← this, List.length_map] at h2
        exact h2
      have hpt := sv_ev_pt (own := own) (T := T) (len := len) (pr := pr) hW rest
      have hso := sv_ev_so (W := W) (own := own) (T := T) (len := len) (pr := pr) rest
      have ht2 : t < 2 ^ 31 := by unfold sv_tk at ht; omega
      rw [nI_pred]
      refine br_f (nI_pos (by omega)) ⟨by rw [nI_add]; exact vp_in_nI (by omega) (by omega), ?_⟩
      rw [nI_add, nI_clamp (by omega)]
      refine nm_r hQ ?_
      have em : nI i + (-1) = nI i - 1 := (Int32.sub_eq_add_neg _ _).symm
      have est : sv_ev W own T len pr (t :: rest) = sv_st W own T len pr t (sv_ev W own T len pr rest) := rfl
      rw [est] at ih'
      by_cases hw : t < 8
      · refine xj_w1 hw (br_f (by decide) ?_)
        have e2 : sv_st W own T len pr t (sv_ev W own T len pr rest) = (true, sv_wd T len t, W t, false, 0) :: sv_ev W own T len pr rest := by unfold sv_st; rw [if_pos hw]
        rw [e2] at ih'
        generalize sv_ev W own T len pr rest = E at hR hsl hpt hso ih'
        refine xs_word (by omega) hd hw hlen hL ?_
        rw [hT]
        refine xs_score (w := W t) (s := sv_wd T len t) (by omega) hd hst hlen htot (by have := hW t hw; omega) hL (by rw [pk_us]; exact hG t hw) (fun i hi => by rw [sd_cy_in hi, Nat.zero_add]) (fun hz => by
          have hl0 := h0 hz
          subst hl0
          exact sv_tot0 (T := T) (sv_wd_so T 0 t)) ?_
        intro C' hC1 hC2
        refine nm_r (nI_1 _) (nm_r em (ih' _ _ _ _ (sx_push hR ?_ ⟨?_, ?_, fun _ => ⟨?_, ?_⟩⟩)))
        · intro p hp3
          refine ⟨pk_un (by omega), hC2 p (by omega), pk_un (by omega), fun i hi => sd_cy_out (by omega)⟩
        · rw [pk_us]; rfl
        · rw [hC1, hown]; rfl
        · rw [pk_us]; exact hG t hw
        · intro i hi
          rw [sd_cy_in hi, Nat.zero_add]
      · refine xj_w0 (by omega) ht2 (br_t rfl ?_)
        by_cases hr : 1000 ≤ t
        · have ht3 : t < 11000 := by unfold sv_tk at ht; omega
          refine xj_r1 hr ht3 (br_f (by decide) ?_)
          have e2 : sv_st W own T len pr t (sv_ev W own T len pr rest) = (false, fun _ => 0, 0, decide ((t - 1000) / 100 ≤ pr ∧ pr ≤ (t - 1000) % 100), 0) :: sv_ev W own T len pr rest := by unfold sv_st; rw [if_neg hw, if_pos hr]
          rw [e2] at ih'
          generalize sv_ev W own T len pr rest = E at hR hsl hpt hso ih'
          refine xs_range (by omega) hd hr ht3 hpr hP ?_
          refine nm_r (nI_1 _) (nm_r em (ih' _ _ _ _ (sx_push hR ?_ ⟨?_, ?_, fun z => absurd (show false = true from z) (by decide)⟩)))
          · intro p hp3
            exact ⟨pk_un (by omega), pk_un (by omega), rfl, fun i hi => rfl⟩
          · rw [pk_us]; rfl
          · rw [pk_us]; rfl
        · have hj : 8 ≤ t ∧ t ≤ 12 := by unfold sv_tk at ht; omega
          refine xj_r0 (by omega) (br_t rfl ?_)
          obtain ⟨a, b, r, hE, hsp⟩ := sv_shape (W := W) (own := own) (T := T) (len := len) (pr := pr) htd hks hj
          have e2 : sv_st W own T len pr t (sv_ev W own T len pr rest) = sv_j own t a b :: r := by unfold sv_st; rw [if_neg hw, if_neg hr, hE]
          rw [e2] at ih'
          rw [hE] at hR hsl hpt hso ⊢
          rw [List.length_cons, List.length_cons] at hsl ⊢
          obtain ⟨ea, eb, hRr⟩ := hR
          rw [List.length_cons] at ea
          have hpt' : sv_pt (a :: b :: r) = 3 * a.2.2.1 + a.2.2.2.2 + (3 * b.2.2.1 + b.2.2.2.2 + sv_pt r) := rfl
          refine br_f (nI_nlt (b := 2) (by omega) (by omega)) (nm_r (pk_m1 _) ?_)
          rw [nI_pred]
          by_cases hs : t = 11 ∨ t = 12
          · refine xj_s1 hs (br_f (by decide) ?_)
            obtain ⟨ha1, hb1⟩ := hsp hs
            obtain ⟨hsa, hsb, _⟩ := hso
            have e3 : sv_j own t a b = (true, fun i => sv_ch (if t = 11 then 1 else 3) (a.2.1 i) b.2.1 12, b.2.2.1 + a.2.2.1, false, 0) := by unfold sv_j; rw [if_pos (by omega)]
            have hso2 := sv_j_so (own := own) (t := t) hsa hsb
            rw [e3] at ih' hso2
            have go : ∀ far : Nat, (far = 1 ∨ far = 3) → (if t = 11 then 1 else 3) = far → wX_judge__watchQuery_113 post (wX_judge__watchQuery_8 post (nI fr) (nI d) (i + 1)) (nI fr) (nI d) (nI (r.length + 1)) (nI i) (nI far) (nI r.length) (nI (r.length + 1)) fdc fnn fsg fpt fpq (nI st) (nI tot) fhc aN aP aL aT aS aD aV aPT aPQ aLQ aI M C V B aG aHN aHS aHR aSH aWQ aWL aNN aNC := by
              intro far hfar hf2
              rw [hf2] at ih' hso2
              refine xs_js (sa := a.2.1) (sb := b.2.1) (w1 := a.2.2.1) (w2 := b.2.2.1) (by omega) (by omega) (by omega) hfar (ea.2.2 ha1).2 (eb.2.2 hb1).2 (fun i hi => (hsa i hi).1) (ea.2.2 ha1).1 (eb.2.2 hb1).1 ?_
              show wpX_scoreSpans _ _ (nI (r.length + 1) - 1) (nI d)
              rw [nI_pred]
              refine xs_score (w := b.2.2.1 + a.2.2.1) (s := fun i => sv_ch far (a.2.1 i) b.2.1 12) (by omega) hd hst hlen htot (by omega) hL pk_us (fun i hi => by rw [sd_cy_in hi, Nat.zero_add]) (fun hz => by
                have hl0 := h0 hz
                subst hl0
                exact sv_tot0 (T := T) hso2) ?_
              intro C' hC1 hC2
              refine nm_r em (ih' _ _ _ _ (sx_push hRr ?_ ⟨?_, ?_, fun _ => ⟨pk_us, ?_⟩⟩))
              · intro p hp3
                exact ⟨pk_un (by omega), hC2 p (by omega), pk_un (by omega), fun i hi => sd_cy_out (by omega)⟩
              · rw [pk_us]; rfl
              · rw [hC1, hown]; rfl
              · intro i hi
                rw [sd_cy_in hi, Nat.zero_add]
            by_cases h11 : t = 11
            · exact br_t (by rw [h11]; rfl) (go 1 (Or.inl rfl) (if_pos h11))
            · exact br_f (fun z => h11 ((nI_eq (b := 11) ht2 (by decide)).mp z)) (go 3 (Or.inr rfl) (if_neg h11))
          · refine xj_s0 ht2 (by omega) (by omega) (br_t rfl ?_)
            have e3 : sv_j own t a b = (false, fun _ => 0, 0, sv_cm t (sv_mt a) (sv_mt b), if t = 10 then sv_ss own a else sv_ss own a + sv_ss own b) := by unfold sv_j; rw [if_neg (by omega)]
            rw [e3] at ih'
            refine xs_jm (a := r.length + 1) (b := r.length) (x := sv_mt a) (y := sv_mt b) (s1 := sv_ss own a) (s2 := sv_ss own b) (by omega) (by omega) (by omega) ea.1 eb.1 ea.2.1 eb.2.1 ?_
            refine nm_r em (ih' _ _ _ _ (sx_push hRr ?_ ⟨?_, ?_, fun z => absurd (show false = true from z) (by decide)⟩))
            · intro p hp3
              exact ⟨pk_un (by omega), pk_un (by omega), rfl, fun i hi => rfl⟩
            · rw [pk_us]; rfl
            · rw [pk_us]; rfl
  have k0 := key l.length (Nat.le_refl _) aM aC aW aB (by rw [List.drop_length]; exact trivial)
  rw [List.drop_length] at k0
  exact nm_e (Exists.intro (l.length + 1) k0)
end
