theorem sk_comb {H : Nat → Bool} {rk N : Nat → Int32} {S : Nat → Nat} {lim dc hc : Nat} {hN hS hR KN : Nat → Int32} {KS : Nat → Int64} (hl : lim ≤ 10) (h : rk_I H rk N (fun e => nI (S e)) lim dc hc hN hS hR)
    (hK : ∀ e, e < dc → H e = true → rk_bf H (fun i => (rk i).toInt) dc e < lim → KN (rk_bf H (fun i => (rk i).toInt) dc e) = N e ∧ KS (rk_bf H (fun i => (rk i).toInt) dc e) = lN (S e)) : hc = min (sg_cn H dc) lim ∧ sr_K hc hN hS KN KS := by
  obtain ⟨h1, h2⟩ := h
  refine ⟨h1, by omega, fun p hp => ?_⟩
  obtain ⟨e, he, hH, hb, e1, e2, _⟩ := h2 p hp
  obtain ⟨k1, k2⟩ := hK e he hH (by omega)
  rw [hb] at k1 k2
  refine ⟨by rw [e1, k1], ?_⟩
  rw [e2, k2, lN_i]
theorem sr_H_cy {a s : Nat → Int32} {b c m n : Nat} {q : List Nat} (h : sr_H a b q) (hd : b + q.length ≤ c ∨ c + m ≤ b) : sr_H (sd_cy a c s n m) b q := fun i hi => by
  rw [sd_cy_out (by omega)]; exact h i hi
theorem sr_H_mv {a s : Nat → Int32} {b c : Nat} {q : List Nat} (h : sr_H s c q) : sr_H (sd_cy a b s c q.length) b q := fun i hi => by
  rw [sd_cy_in hi]; exact h i hi
def sw_up (W : Nat → List Nat) (w : Nat) (q : List Nat) : Nat → List Nat := fun x => if x = w then q else W x
theorem sw_s (W : Nat → List Nat) (w : Nat) (q : List Nat) : sw_up W w q w = q := if_pos rfl
theorem sw_n (W : Nat → List Nat) {w x : Nat} (q : List Nat) (h : x ≠ w) : sw_up W w q x = W x := if_neg h
theorem i_vc_search {k : Nat} {u : SX} {v : SY} (I : i_Rel k u v) (hk : k + 3 ≤ 1536) (v1 : Int32) (v2 : Int32) : wpX_search (fun r u' => wpY_search (fun r' v' => r' = r ∧ i_Rel (k + 3) u' v') v v1 (lw_bz v2)) u v1 (lw_bz v2) := by
  have I3 := i_up I
  obtain ⟨dc, m, sg, pt, hc, q, W, D, fsc, fsl, aV, aPT, aPQ, aLQ, aI, aM, aC, aW, aB, aG, aHN, aHS, aHR, aSH, aWQ, aWL, aNN, aNC, bV, bTK, bLN, bKD, bSP, bWT, bIS, bMA, bKN, bSH, bIH, bSC, bKS, bHS, rfl, rfl, hA⟩ := I
  obtain ⟨hm, hpt, hPT, ⟨hD, hT, ⟨st, hI, hst3⟩, hV⟩, hQ, hW, hN, hK, hS⟩ := hA
  have h32 := hI.2.1
  have hP := sd_I_P hI
  obtain ⟨q1, q2, q3, q4, q5⟩ := hQ
  unfold wpX_search
  rcases pk_ix v1 (n := 11) (by decide) with h | h | ⟨lim, hlim, rfl⟩
  · refine xv_l0 (Or.inl h) (br_t rfl ?_)
    unfold wpY_search
    exact yv_0 (n := 10) (Or.inl h) (by decide) (br_t rfl ⟨rfl, I3⟩)
  · refine xv_l0 (Or.inr h) (br_t rfl ?_)
    unfold wpY_search
    exact yv_0 (n := 10) (Or.inr h) (by decide) (br_t rfl ⟨rfl, I3⟩)
  · have hLN5 : upd (upd bLN 5 (nI q.length)) 0 0 5 = nI q.length := by rw [pk_un (by decide), pk_us]
    have hTK5 : sr_H (sd_cy bTK (16 * 5) bTK 0 q.length) (16 * 5) q := sr_H_mv q5
    have hW' : sr_W W aWQ aWL (sd_cy bTK (16 * 5) bTK 0 q.length) (upd (upd bLN 5 (nI q.length)) 0 0) := by
      intro w hw
      obtain ⟨w1, w2, w3, w4, w5, w6, w7⟩ := hW w hw
      exact ⟨w1, w2, w3, w4, by rw [pk_un (by omega), pk_un (by omega)]; exact w5, w6, sr_H_cy w7 (by omega)⟩
    have hQ' : sr_Q [] aPQ (sd_cy bTK (16 * 5) bTK 0 q.length) (upd (upd bLN 5 (nI q.length)) 0 0) := ⟨Nat.zero_le _, fun t ht => absurd ht (by simp), pk_us, sr_H_0 _ _, sr_H_0 _ _⟩
    refine xv_l1 hlim (br_f (by decide) ?_)
    refine xe_expr q1 q2 q4 (fun hv I => ?_) (fun hv I => ?_)
    · obtain ⟨kk, hkk⟩ := hv
      refine br_f (by decide) ?_
      refine xf_pendingQuery hD hP q1 q4 q2 hkk (show lim ≤ 10 by omega) ?_
      intro c1 c2 hc' M C V B G hN' hS' hR' SH hRk hSh
      unfold wpY_search
      refine yv_1 (n := 10) (by omega) (by decide) (br_f (by decide) ?_)
      refine yx_move (li := 5) (by omega) (by omega) q1 q3 ?_
      refine yx_expr (li := 5) (by omega) q1 q2 hLN5 hTK5 (fun _ K => ?_) (fun hn => absurd ⟨kk, hkk⟩ hn)
      refine br_f (by decide) ?_
      refine yl_look hD hP (by omega) hLN5 hTK5 q2 hkk (show lim ≤ 10 by omega) ?_
      intro KD SP WT IS MA KN SH' IH SC KS HS hKK hSH'
      obtain ⟨ehc, hKr⟩ := sk_comb (show lim ≤ 10 by omega) hRk hKK
      rw [← ehc]
      exact ⟨rfl, sr_mk (q := []) (W := W) ⟨by omega, hpt, hPT, ⟨hD, hT, ⟨st, hI, hst3⟩, hV⟩, hQ', hW', hN, hKr, fun k hk => by rw [hSh k hk, hSH' k hk]⟩⟩
    · refine br_t rfl ?_
      unfold wpY_search
      refine yv_1 (n := 10) (by omega) (by decide) (br_f (by decide) ?_)
      refine yx_move (li := 5) (by omega) (by omega) q1 q3 ?_
      refine yx_expr (li := 5) (by omega) q1 q2 hLN5 hTK5 (fun hy => absurd hy hv) (fun _ K => ?_)
      exact br_t rfl ⟨rfl, sr_mk (q := []) (W := W) ⟨by omega, hpt, hPT, ⟨hD, hT, ⟨st, hI, hst3⟩, hV⟩, hQ', hW', hN, hK, hS⟩⟩
theorem i_vc_like {k : Nat} {u : SX} {v : SY} (I : i_Rel k u v) (hk : k + 3 ≤ 1536) (v1 : Int32) (v2 : Int32) : wpX_like (fun r u' => wpY_like (fun r' v' => r' = r ∧ i_Rel (k + 3) u' v') v v1 v2) u v1 v2 := by
  have I3 := i_up I
  obtain ⟨dc, m, sg, pt, hc, q, W, D, fsc, fsl, aV, aPT, aPQ, aLQ, aI, aM, aC, aW, aB, aG, aHN, aHS, aHR, aSH, aWQ, aWL, aNN, aNC, bV, bTK, bLN, bKD, bSP, bWT, bIS, bMA, bKN, bSH, bIH, bSC, bKS, bHS, rfl, rfl, hA⟩ := I
  obtain ⟨hm, hpt, hPT, ⟨hD, hT, ⟨st, hI, hst3⟩, hV⟩, hQ, hW, hN, hK, hS⟩ := hA
  obtain ⟨r, hF⟩ := sd_F_ex D.1 v1 dc
  have h32 := hI.2.1
  have hP := sd_I_P hI
  have hL := sd_ok_L hD
  unfold wpX_like
  refine xr_slotOf h32 hF ?_
  rcases sr_slot hF with rfl | ⟨d, hd, rfl⟩
  · refine br_t rfl ?_
    unfold wpY_like
    refine yr_find h32 hF ?_
    exact br_t sx_m0 ⟨rfl, I3⟩
  · have hv : vp_in (nI d) 32 := vp_in_nI (by omega) (by omega)
    have ed : (nI d).toNatClampNeg = d := nI_clamp (by omega)
    have hr0 : ¬ nI d < 0 := nI_pos (by omega)
    obtain ⟨hl1, hl2⟩ := hL d
    refine br_f (sx_nm (by omega)) ⟨hv, ?_⟩
    rw [ed, hl1]
    rcases Nat.eq_zero_or_pos (sd_n D.2.2.1 d) with hz | hpos
    · refine br_t (by rw [hz]; rfl) ?_
      unfold wpY_like
      refine yr_find h32 hF ?_
      refine br_f hr0 ⟨hv, ?_⟩
      rw [ed]
      exact br_t (by rw [hl1, hz]; rfl) ⟨rfl, I3⟩
    · refine br_f (nI_ne0 hpos (by omega)) ?_
      have hY0 : ¬ D.2.2.1 d = 0 := by rw [hl1]; exact nI_ne0 hpos (by omega)
      rcases pk_ix v2 (n := 11) (by decide) with h | h | ⟨lim, hlim, rfl⟩
      · refine xv_l0 (Or.inl h) (br_t rfl ?_)
        unfold wpY_like
        refine yr_find h32 hF ?_
        refine br_f hr0 ⟨hv, ?_⟩
        rw [ed]
        exact br_f hY0 (yv_0 (n := 10) (Or.inl h) (by decide) (br_t rfl ⟨rfl, I3⟩))
      · refine xv_l0 (Or.inr h) (br_t rfl ?_)
        unfold wpY_like
        refine yr_find h32 hF ?_
        refine br_f hr0 ⟨hv, ?_⟩
        rw [ed]
        exact br_f hY0 (yv_0 (n := 10) (Or.inr h) (by decide) (br_t rfl ⟨rfl, I3⟩))
      · refine xv_l1 hlim (br_f (by decide) ?_)
        refine xe_like (by omega) hL hT hpos ?_
        intro LQ hLQ
        have hne := sl_ws_ne hT hpos
        have h8 : ∀ w, w ∈ sl_ws D d 8 → w < 8 := fun w hw => sl_ws_lt hw
        have hlen := sv_lx_len (sl_ws D d 8) hne
        have hl8 : (sl_ws D d 8).length ≤ 8 := by rw [sl_ws_len]; exact sg_cn_le _ _
        obtain ⟨kk, hkk⟩ := sv_lx_b (sl_ws D d 8) hne h8
        refine xf_likeQuery (l := sv_lx (sl_ws D d 8)) hD hP (by omega) hLQ (sv_lx_tk _ h8) hkk (show lim ≤ 10 by omega) ?_
        intro c1 c2 hc' M C V B G hN' hS' hR' SH hRk hSh
        have eM : sf_M D st (sv_lx (sl_ws D d 8)) = sf_M D st (sv_ly (sl_ws D d 8)) := funext (fun e => (sv_like (sl_ws D d 8) hne h8).1)
        have eS : sf_S D st (sv_lx (sl_ws D d 8)) = sf_S D st (sv_ly (sl_ws D d 8)) := funext (fun e => (sv_like (sl_ws D d 8) hne h8).2)
        have eH : sf_H D st (nI d) (sv_lx (sl_ws D d 8)) = sf_H D st (nI d) (sv_ly (sl_ws D d 8)) := by
          funext e
          unfold sf_H
          rw [eM]
        have eR : sf_R D st 0 (sv_lx (sl_ws D d 8)) = sf_R D st 0 (sv_ly (sl_ws D d 8)) := by
          funext e
          unfold sf_R
          rw [eS]
        have eC : sf_C D st (nI d) (sv_lx (sl_ws D d 8)) = sf_C D st (nI d) (sv_ly (sl_ws D d 8)) := by
          funext kx e
          unfold sf_C
          rw [eH]
        rw [eH, eR, eS] at hRk
        rw [eC] at hSh
        rw [eH]
        unfold wpY_like
        refine yr_find h32 hF ?_
        refine br_f hr0 ⟨hv, ?_⟩
        rw [ed]
        refine br_f hY0 (yv_1 (n := 10) (by omega) (by decide) (br_f (by decide) ?_))
        refine yx_like hd hD hT hpos hP (show lim ≤ 10 by omega) ?_
        intro TK KD SP WT IS MA KN SH' IH SC KS HS hlow hKK hSH'
        obtain ⟨ehc, hKr⟩ := sk_comb (show lim ≤ 10 by omega) hRk hKK
        rw [← ehc]
        obtain ⟨q1, q2, q3, q4, q5⟩ := hQ
        refine ⟨rfl, sr_mk (W := W) ⟨by omega, hpt, hPT, ⟨hD, hT, ⟨st, hI, hst3⟩, hV⟩, ⟨q1, q2, by rw [pk_un (by decide)]; exact q3, q4, sr_H_fr q5 (fun i hi => hlow _ (by omega))⟩, ?_, hN, hKr, fun k hk => by rw [hSh k hk, hSH' k hk]⟩⟩
        intro w hw
        obtain ⟨w1, w2, w3, w4, w5, w6, w7⟩ := hW w hw
        exact ⟨w1, w2, w3, w4, by rw [pk_un (by omega)]; exact w5, w6, sr_H_fr w7 (fun i hi => hlow _ (by omega))⟩
theorem i_vc_watch {k : Nat} {u : SX} {v : SY} (I : i_Rel k u v) (hk : k + 3 ≤ 1536) (v1 : Int32) : wpX_watch (fun r u' => wpY_watch (fun r' v' => r' = r ∧ i_Rel (k + 3) u' v') v v1) u v1 := by
  have I3 := i_up I
  obtain ⟨dc, m, sg, pt, hc, q, W, D, fsc, fsl, aV, aPT, aPQ, aLQ, aI, aM, aC, aW, aB, aG, aHN, aHS, aHR, aSH, aWQ, aWL, aNN, aNC, bV, bTK, bLN, bKD, bSP, bWT, bIS, bMA, bKN, bSH, bIH, bSC, bKS, bHS, rfl, rfl, hA⟩ := I
  obtain ⟨hm, hpt, hPT, ⟨hD, hT, ⟨st, hI, hst3⟩, hV⟩, hQ, hW, hN, hK, hS⟩ := hA
  obtain ⟨q1, q2, q3, q4, q5⟩ := hQ
  unfold wpX_watch
  rcases pk_ix v1 (n := 4) (by decide) with h | h | ⟨w, hw, rfl⟩
  · refine xv_h0 (Or.inl h) (br_t rfl ?_)
    unfold wpY_watch
    exact yv_0 (n := 3) (Or.inl h) (by decide) (br_t rfl ⟨rfl, I3⟩)
  · refine xv_h0 (Or.inr h) (br_t rfl ?_)
    unfold wpY_watch
    exact yv_0 (n := 3) (Or.inr h) (by decide) (br_t rfl ⟨rfl, I3⟩)
  · have hvw : vp_in (nI w) 4 := vp_in_nI hw (by decide)
    have ew : (nI w).toNatClampNeg = w := nI_clamp (by omega)
    have e1w : 1 + nI w = nI (1 + w) := nI_add 1 w
    -- a right query, or none: X copies
    have goX : ∀ (II : Nat → Int32) (P : Int32 → SX → Prop), P (nI q.length) (nI dc, nI m, nI sg, nI pt, 0, fsc, fsl, nI hc, D.1, D.2.1, D.2.2.1, D.2.2.2.1, D.2.2.2.2.1, D.2.2.2.2.2, aV, aPT, aPQ, aLQ, II, aM, aC, aW, aB, aG, aHN, aHS, aHR, aSH, sd_cy aWQ (12 * w) aPQ 0 q.length, upd aWL w (nI q.length), aNN, upd aNC w 0) →
        wX_watch_25 P (nI w) (nI q.length) (nI dc) (nI m) (nI sg) (nI pt) (nI q.length) fsc fsl (nI hc) D.1 D.2.1 D.2.2.1 D.2.2.2.1 D.2.2.2.2.1 D.2.2.2.2.2 aV aPT aPQ aLQ II aM aC aW aB aG aHN aHS aHR aSH aWQ aWL aNN aNC := by
      intro II P hPp
      refine br_f (by decide) ?_
      have key : ∀ n i, i + n = q.length → wX_watch_46 P (nI w) (nI q.length) (nI dc) (nI m) (nI sg) (nI pt) 0 fsc fsl (nI hc) (n + 1) (nI i) D.1 D.2.1 D.2.2.1 D.2.2.2.1 D.2.2.2.2.1 D.2.2.2.2.2 aV aPT aPQ aLQ II aM aC aW aB aG aHN aHS aHR aSH (sd_cy aWQ (12 * w) aPQ 0 i) aWL aNN aNC := by
        intro n
        induction n with
        | zero =>
          intro i h
          obtain rfl : i = q.length := by omega
          refine br_t (nI_le (Nat.le_refl _) (by omega)) ⟨hvw, ?_⟩
          rw [ew]
          exact nm_e ⟨hvw, nm_e hPp⟩
        | succ n ih =>
          intro i h
          have e3 := sd_cy_s aWQ (12 * w) aPQ 0 i
          rw [Nat.zero_add] at e3
          refine br_f (nI_ge (by omega) (by omega)) ?_
          rw [sx_ix, nI_clamp (n := i) (by omega), nI_clamp (n := 12 * w + i) (by omega)]
          exact ⟨vp_in_nI (by omega) (by omega), vp_in_nI (by omega) (by omega), nm_r e3 (nm_r (nI_1 _) (ih (i + 1) (by omega)))⟩
      have k0 := key q.length 0 (Nat.zero_add _)
      rw [sd_cy_0] at k0
      exact Exists.intro (q.length + 1) k0
    -- and Y moves
    have goY : ∀ (K : Nat → Int32) (P : Int32 → SY → Prop), P (nI q.length) (nI dc, nI sg, nI m, nI pt, nI hc, D.1, D.2.1, D.2.2.1, D.2.2.2.1, D.2.2.2.2.1, D.2.2.2.2.2, bV, aPT, sd_cy bTK (16 * (1 + w)) bTK 0 q.length, upd (upd (upd bLN (1 + w) (nI q.length)) 0 0) 0 0, K, bSP, bWT, bIS, bMA, bSC, aNN, upd aNC w 0, bKN, bKS, bSH, bIH, bHS) →
        wY_watch_28 P (nI w) (nI dc) (nI sg) (nI m) (nI pt) (nI hc) D.1 D.2.1 D.2.2.1 D.2.2.2.1 D.2.2.2.2.1 D.2.2.2.2.2 bV aPT bTK bLN K bSP bWT bIS bMA bSC aNN aNC bKN bKS bSH bIH bHS := by
      intro K P hPp
      refine br_f (by decide) ?_
      rw [e1w]
      refine yx_move (li := 1 + w) (by omega) (by omega) q1 q3 ⟨hvw, ?_⟩
      rw [ew]
      refine nm_e (nm_e (br_f (by decide) ⟨by rw [e1w]; exact vp_in_nI (by omega) (by omega), ?_⟩))
      rw [e1w, nI_clamp (by omega), pk_un (by omega), pk_un (by omega), pk_us]
      exact hPp
    -- what holds after it
    have fin : (q = [] ∨ ∃ kk, sq_b q = some [kk]) → ∀ (II K : Nat → Int32), i_Rel (k + 3) (nI dc, nI m, nI sg, nI pt, 0, fsc, fsl, nI hc, D.1, D.2.1, D.2.2.1, D.2.2.2.1, D.2.2.2.2.1, D.2.2.2.2.2, aV, aPT, aPQ, aLQ, II, aM, aC, aW, aB, aG, aHN, aHS, aHR, aSH, sd_cy aWQ (12 * w) aPQ 0 q.length, upd aWL w (nI q.length), aNN, upd aNC w 0) (nI dc, nI sg, nI m, nI pt, nI hc, D.1, D.2.1, D.2.2.1, D.2.2.2.1, D.2.2.2.2.1, D.2.2.2.2.2, bV, aPT, sd_cy bTK (16 * (1 + w)) bTK 0 q.length, upd (upd (upd bLN (1 + w) (nI q.length)) 0 0) 0 0, K, bSP, bWT, bIS, bMA, bSC, aNN, upd aNC w 0, bKN, bKS, bSH, bIH, bHS) := by
      intro hq II K
      refine sr_mk (q := []) (W := sw_up W w q) ⟨by omega, hpt, hPT, ⟨hD, hT, ⟨st, hI, hst3⟩, hV⟩, ⟨Nat.zero_le _, fun t ht => absurd ht (by simp), pk_us, sr_H_0 _ _, sr_H_0 _ _⟩, ?_, sr_N_upd (c := 0) hN (by omega), hK, hS⟩
      intro x hx
      by_cases e : x = w
      · subst e
        rw [sw_s]
        refine ⟨q1, q2, fun hne => ?_, pk_us, by rw [pk_un (by omega), pk_un (by omega), pk_us], sr_H_mv q4, sr_H_mv q5⟩
        rcases hq with hq | hq
        · exact absurd hq hne
        · exact hq
      · rw [sw_n W q e]
        obtain ⟨w1, w2, w3, w4, w5, w6, w7⟩ := hW x hx
        exact ⟨w1, w2, w3, by rw [pk_un e]; exact w4, by rw [pk_un (by omega), pk_un (by omega), pk_un (by omega)]; exact w5, sr_H_cy w6 (by omega), sr_H_cy w7 (by omega)⟩
    refine xv_h1 hw (br_f (by decide) ?_)
    by_cases hz : q.length = 0
    · have hq0 : q = [] := List.length_eq_zero_iff.mp hz
      refine br_t (by rw [hz]; rfl) (goX aI _ ?_)
      unfold wpY_watch
      refine yv_1 (n := 3) (by omega) (by decide) (br_f (by decide) ?_)
      refine br_t (by rw [q3, hz]; rfl) (goY bKD _ ⟨rfl, fin (Or.inl hq0) aI bKD⟩)
    · refine br_f (nI_ne0 (by omega) (by omega)) ?_
      have hY0 : ¬ bLN 0 = 0 := by rw [q3]; exact nI_ne0 (by omega) (by omega)
      refine xe_expr q1 q2 q4 (fun hv II => ?_) (fun hv II => ?_)
      · refine br_f (by decide) (goX II _ ?_)
        unfold wpY_watch
        refine yv_1 (n := 3) (by omega) (by decide) (br_f (by decide) (br_f hY0 ?_))
        refine yx_expr (li := 0) (by omega) q1 q2 q3 q5 (fun _ K => ?_) (fun hn => absurd hv hn)
        exact br_f (by decide) (goY K _ ⟨rfl, fin (Or.inr hv) II K⟩)
      · refine br_t rfl (br_t rfl ?_)
        unfold wpY_watch
        refine yv_1 (n := 3) (by omega) (by decide) (br_f (by decide) (br_f hY0 ?_))
        refine yx_expr (li := 0) (by omega) q1 q2 q3 q5 (fun hy => absurd hy hv) (fun _ K => ?_)
        refine br_t rfl (br_t rfl (nm_e (br_t rfl ⟨rfl, sr_mk (q := []) (W := W) ⟨by omega, hpt, hPT, ⟨hD, hT, ⟨st, hI, hst3⟩, hV⟩, ⟨Nat.zero_le _, fun t ht => absurd ht (by simp), pk_us, sr_H_0 _ _, sr_H_0 _ _⟩, ?_, hN, hK, hS⟩⟩)))
        intro x hx
        obtain ⟨w1, w2, w3, w4, w5, w6, w7⟩ := hW x hx
        exact ⟨w1, w2, w3, w4, by rw [pk_un (by omega)]; exact w5, w6, w7⟩
