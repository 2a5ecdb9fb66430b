def sr_D (D : sd_D) (lX lY : Nat → Int32) (dc sg : Nat) : Prop := sd_ok D ∧ sd_tx D.2.2.2.1 ∧ (∃ st, sd_I D.2.2.2.2.1 st dc sg ∧ dc ≤ st + 3) ∧ ∀ j, j < sg → lX j = lY j
def sr_A (k dc m sg pt hc : Nat) (q : List Nat) (W : Nat → List Nat) (D : sd_D) (aV aPT aPQ aHN aHS aSH aWQ aWL aNC bV bTK bLN bKN bSH : Nat → Int32) (bKS : Nat → Int64) : Prop :=
  m ≤ k ∧ pt ≤ 12 ∧ sd_tx aPT ∧ sr_D D aV bV dc sg ∧ sr_Q q aPQ bTK bLN ∧ sr_W W aWQ aWL bTK bLN ∧ sr_N aNC ∧ sr_K hc aHN aHS bKN bKS ∧ sr_S aSH bSH
def i_Rel (k : Nat) (u : SX) (v : SY) : Prop :=
  ∃ (dc m sg pt hc : Nat) (q : List Nat) (W : Nat → List Nat) (D : sd_D) (fsc fsl : Int32)
    (aV aPT aPQ aLQ aI aM aC aW aB aG aHN aHS aHR aSH aWQ aWL aNN aNC bV bTK bLN bKD bSP bWT bIS bMA bKN bSH bIH : Nat → Int32) (bSC bKS bHS : Nat → Int64),
    u = (nI dc, nI m, nI sg, nI pt, nI q.length, fsc, fsl, nI hc, D.1, D.2.1, D.2.2.1, D.2.2.2.1, D.2.2.2.2.1, D.2.2.2.2.2, aV, aPT, aPQ, aLQ, aI, aM, aC, aW, aB, aG, aHN, aHS, aHR, aSH, aWQ, aWL, aNN, aNC) ∧
    v = (nI dc, nI sg, nI m, nI pt, nI hc, D.1, D.2.1, D.2.2.1, D.2.2.2.1, D.2.2.2.2.1, D.2.2.2.2.2, bV, aPT, bTK, bLN, bKD, bSP, bWT, bIS, bMA, bSC, aNN, aNC, bKN, bKS, bSH, bIH, bHS) ∧
    sr_A k dc m sg pt hc q W D aV aPT aPQ aHN aHS aSH aWQ aWL aNC bV bTK bLN bKN bSH bKS
theorem i_up {k : Nat} {u : SX} {v : SY} (h : i_Rel k u v) : i_Rel (k + 3) u v := by
  obtain ⟨dc, m, sg, pt, hc, q, W, D, fsc, fsl, aV, aPT, aPQ, aLQ, aI, aM, aC, aW, aB, aG, aHN, aHS, aHR, aSH, aWQ, aWL, aNN, aNC, bV, bTK, bLN, bKD, bSP, bWT, bIS, bMA, bKN, bSH, bIH, bSC, bKS, bHS, e1, e2, h1, h2⟩ := h
  exact ⟨dc, m, sg, pt, hc, q, W, D, fsc, fsl, aV, aPT, aPQ, aLQ, aI, aM, aC, aW, aB, aG, aHN, aHS, aHR, aSH, aWQ, aWL, aNN, aNC, bV, bTK, bLN, bKD, bSP, bWT, bIS, bMA, bKN, bSH, bIH, bSC, bKS, bHS, e1, e2, by omega, h2⟩
theorem sr_mk {k dc m sg pt hc : Nat} {q : List Nat} {W : Nat → List Nat} {D : sd_D} {fsc fsl : Int32}
    {aV aPT aPQ aLQ aI aM aC aW aB aG aHN aHS aHR aSH aWQ aWL aNN aNC bV bTK bLN bKD bSP bWT bIS bMA bKN bSH bIH : Nat → Int32} {bSC bKS bHS : Nat → Int64}
    (h : sr_A k dc m sg pt hc q W D aV aPT aPQ aHN aHS aSH aWQ aWL aNC bV bTK bLN bKN bSH bKS) :
    i_Rel k (nI dc, nI m, nI sg, nI pt, nI q.length, fsc, fsl, nI hc, D.1, D.2.1, D.2.2.1, D.2.2.2.1, D.2.2.2.2.1, D.2.2.2.2.2, aV, aPT, aPQ, aLQ, aI, aM, aC, aW, aB, aG, aHN, aHS, aHR, aSH, aWQ, aWL, aNN, aNC) (nI dc, nI sg, nI m, nI pt, nI hc, D.1, D.2.1, D.2.2.1, D.2.2.2.1, D.2.2.2.2.1, D.2.2.2.2.2, bV, aPT, bTK, bLN, bKD, bSP, bWT, bIS, bMA, bSC, aNN, aNC, bKN, bKS, bSH, bIH, bHS) :=
  ⟨dc, m, sg, pt, hc, q, W, D, fsc, fsl, aV, aPT, aPQ, aLQ, aI, aM, aC, aW, aB, aG, aHN, aHS, aHR, aSH, aWQ, aWL, aNN, aNC, bV, bTK, bLN, bKD, bSP, bWT, bIS, bMA, bKN, bSH, bIH, bSC, bKS, bHS, rfl, rfl, h⟩
theorem i_vc0 : wpX_init (fun u => wpY_init (fun v => i_Rel 0 u v)) := by
  have z : ∀ j : Nat, (fun _ : Nat => (0 : Int32)) j = nI 0 := fun _ => rfl
  refine ⟨0, 0, 0, 0, 0, [], fun _ => [], (fun _ => 0, fun _ => 0, fun _ => 0, fun _ => 0, fun _ => 0, fun _ => 0), 0, 0, fun _ => 0, fun _ => 0, fun _ => 0, fun _ => 0, fun _ => 0, fun _ => 0, fun _ => 0, fun _ => 0, fun _ => 0, fun _ => 0, fun _ => 0, fun _ => 0, fun _ => 0, fun _ => 0, fun _ => 0, fun _ => 0, fun _ => 0, fun _ => 0, fun _ => 0, fun _ => 0, fun _ => 0, fun _ => 0, fun _ => 0, fun _ => 0, fun _ => 0, fun _ => 0, fun _ => 0, fun _ => 0, fun _ => 0, fun _ => 0, fun _ => 0, fun _ => 0, rfl, rfl, ?_⟩
  refine ⟨Nat.le_refl _, by omega, fun j => ⟨0, by omega, z j⟩, ⟨⟨fun j => ⟨0, by omega, z j⟩, fun j => ⟨0, by omega, z j⟩, fun j => ⟨0, by omega, z j⟩, fun j => Or.inl rfl⟩, fun j => ⟨0, by omega, z j⟩, ⟨0, ⟨Nat.le_refl _, by omega, fun d hd => absurd hd (Nat.not_lt_zero d), fun d _ hd => absurd hd (Nat.not_lt_zero d), fun c hc => by omega⟩, by omega⟩, fun j hj => absurd hj (Nat.not_lt_zero j)⟩,
    ⟨Nat.zero_le _, fun t ht => absurd ht (by simp), rfl, sr_H_0 _ _, sr_H_0 _ _⟩, fun w _ => ⟨Nat.zero_le _, fun t ht => absurd ht (by simp), fun z => absurd rfl z, rfl, rfl, sr_H_0 _ _, sr_H_0 _ _⟩, fun w _ => ⟨0, by omega, rfl⟩, ⟨by omega, fun p hp => absurd hp (Nat.not_lt_zero p)⟩, fun k _ => rfl⟩
/-! texts stay texts -/
theorem sd_tx_cy {a s : Nat → Int32} {b c m : Nat} (ha : sd_tx a) (hs : sd_tx s) : sd_tx (sd_cy a b s c m) := by
  intro j
  unfold sd_cy
  split
  · exact hs _
  · exact ha j
theorem sd_tx_js {fr : Int32} {d : Nat} {s : sd_D × Nat × Nat} (h : sd_tx s.1.2.2.2.1) : sd_tx (sd_js fr d s).1.2.2.2.1 := by
  unfold sd_js
  split
  · split
    · exact sd_tx_cy h h
    · exact h
  · exact sd_tx_cy h h
theorem sd_tx_jn {fr : Int32} {D : sd_D} (h : sd_tx D.2.2.2.1) : ∀ d, sd_tx (sd_jn fr D d).1.2.2.2.1
  | 0 => h
  | d + 1 => sd_tx_js (sd_tx_jn h d)
theorem sm_go_tx : ∀ k (s : sm_S), sd_tx s.1.2.2.2.1 → sd_tx (sm_go k s).1.2.2.2.1
  | 0, _, h => h
  | k + 1, s, h => by
    by_cases ha : sd_al s.2.1 s.2.2.2
    · rw [sm_go_y ha]; exact sm_go_tx k _ (sd_tx_jn h _)
    · rw [sm_go_n ha]; exact h
theorem sd_rmv_ok : ∀ m k (D : sd_D), sd_ok D → sd_ok (sd_rmv m k D)
  | 0, _, _, h => h
  | m + 1, k, D, h => sd_rmv_ok m (k + 1) _ (sd_ok_cp h _ _)
theorem sd_rmv_tx : ∀ m k (D : sd_D), sd_tx D.2.2.2.1 → sd_tx (sd_rmv m k D).2.2.2.1
  | 0, _, _, h => h
  | m + 1, k, D, h => sd_rmv_tx m (k + 1) _ (sd_tx_cy h h)
theorem sd_rmv_S : ∀ m k (D : sd_D) (st : Nat), st ≤ k → (∀ d, d < st → (sd_rmv m k D).2.2.2.2.1 d = D.2.2.2.2.1 d) ∧ ((∀ d, st ≤ d → d < k + m + 1 → D.2.2.2.2.1 d = -1) → ∀ d, st ≤ d → d < k + m + 1 → (sd_rmv m k D).2.2.2.2.1 d = -1)
  | 0, _, _, _, _ => ⟨fun _ _ => rfl, fun h => h⟩
  | m + 1, k, D, st, hk => by
    obtain ⟨h1, h2⟩ := sd_rmv_S m (k + 1) (sd_cp D (k + 1) k) st (by omega)
    refine ⟨fun d hd => ?_, fun h d a b => ?_⟩
    · rw [show sd_rmv (m + 1) k D = sd_rmv m (k + 1) (sd_cp D (k + 1) k) from rfl, h1 d hd]
      show upd D.2.2.2.2.1 k _ d = _
      rw [pk_un (by omega)]
    · rw [show sd_rmv (m + 1) k D = sd_rmv m (k + 1) (sd_cp D (k + 1) k) from rfl]
      refine h2 (fun e a b => ?_) d a (by omega)
      show upd D.2.2.2.2.1 k (D.2.2.2.2.1 (k + 1)) e = -1
      by_cases hek : e = k
      · subst hek; rw [pk_us]; exact h _ (by omega) (by omega)
      · rw [pk_un hek]; exact h e a (by omega)
theorem sr_W_X {W : Nat → List Nat} {wq wl tk ln : Nat → Int32} (h : sr_W W wq wl tk ln) : sn_W W wq wl := fun w hw => by
  obtain ⟨h1, h2, h3, h4, h5, h6, h7⟩ := h w hw
  exact ⟨h1, h2, h3, h4, h6⟩
theorem sr_W_Y {W : Nat → List Nat} {wq wl tk ln : Nat → Int32} (h : sr_W W wq wl tk ln) : sn_WY W tk ln := fun w hw => by
  obtain ⟨h1, h2, h3, h4, h5, h6, h7⟩ := h w hw
  exact ⟨h1, h2, h3, h5, h7⟩
/-! the flush of both sides -/
section
variable {fdc fnn fsg fpt fpq fsc fsl fhc : Int32} {aN aP aL aT aS aD aV aPT aPQ aLQ aI aM aC aW aB aG aHN aHS aHR aSH aWQ aWL aNN aNC : Nat → Int32}
variable {gdc gsg gnn gpt gkp : Int32} {bN bP bL bT bS bD bV bPT bTK bLN bKD bSP bWT bIS bMA bNN bNC bKN bSH bIH : Nat → Int32} {bSC bKS bHS : Nat → Int64}
theorem v_flush {dc st sg : Nat} {W : Nat → List Nat} {D : sd_D} (hD : sd_ok D) (hT : sd_tx D.2.2.2.1) (hI : sd_I D.2.2.2.2.1 st dc sg) (hV : ∀ j, j < sg → aV j = bV j) (hW : sr_W W aWQ aWL bTK bLN) (hN : sr_N aNC) :
    ∃ (D1 : sd_D) (dc1 sg1 : Nat) (V1 NN1 NC1 : Nat → Int32), sd_ok D1 ∧ sd_tx D1.2.2.2.1 ∧ sd_I D1.2.2.2.2.1 dc1 dc1 sg1 ∧ sr_N NC1 ∧
      (∀ post : SX → Prop, (∀ (c1 c2 : Int32) (M C V B G : Nat → Int32), post (nI dc1, fnn, nI sg1, fpt, fpq, c1, c2, fhc, D1.1, D1.2.1, D1.2.2.1, D1.2.2.2.1, D1.2.2.2.2.1, D1.2.2.2.2.2, V1, aPT, aPQ, aLQ, aI, M, C, V, B, G, aHN, aHS, aHR, aSH, aWQ, aWL, NN1, NC1)) → wpX_flushBuffer post (nI dc, fnn, nI sg, fpt, fpq, fsc, fsl, fhc, D.1, D.2.1, D.2.2.1, D.2.2.2.1, D.2.2.2.2.1, D.2.2.2.2.2, aV, aPT, aPQ, aLQ, aI, aM, aC, aW, aB, aG, aHN, aHS, aHR, aSH, aWQ, aWL, aNN, aNC)) ∧
      (∀ post : Int32 → SY → Prop, (∀ (V' KD SP WT IS MA : Nat → Int32) (SC : Nat → Int64), (∀ j, j < sg1 → V1 j = V' j) → post (nI sg1) (nI dc1, nI sg1, gnn, gpt, gkp, D1.1, D1.2.1, D1.2.2.1, D1.2.2.2.1, D1.2.2.2.2.1, D1.2.2.2.2.2, V', bPT, bTK, bLN, KD, SP, WT, IS, MA, SC, NN1, NC1, bKN, bKS, bSH, bIH, bHS)) → wpY_flush post (nI dc, nI sg, gnn, gpt, gkp, D.1, D.2.1, D.2.2.1, D.2.2.2.1, D.2.2.2.2.1, D.2.2.2.2.2, bV, bPT, bTK, bLN, bKD, bSP, bWT, bIS, bMA, bSC, aNN, aNC, bKN, bKS, bSH, bIH, bHS)) := by
  have h1 := hI.1
  rcases Nat.lt_or_ge st dc with hlt | hge
  · have hgo := sm_go_I 16 (sm_fl D st dc sg, upd aV sg 0, dc, sg + 1) ⟨hD, sm_fl_I hI hlt⟩
    have htx := sm_go_tx 16 (sm_fl D st dc sg, upd aV sg 0, dc, sg + 1) hT
    refine ⟨(sm_go 16 (sm_fl D st dc sg, upd aV sg 0, dc, sg + 1)).1, (sm_go 16 (sm_fl D st dc sg, upd aV sg 0, dc, sg + 1)).2.2.1, (sm_go 16 (sm_fl D st dc sg, upd aV sg 0, dc, sg + 1)).2.2.2, (sm_go 16 (sm_fl D st dc sg, upd aV sg 0, dc, sg + 1)).2.1, (sn_t W (sn_mt D) D.1 st (dc - st) (aNN, aNC)).1, (sn_t W (sn_mt D) D.1 st (dc - st) (aNN, aNC)).2, hgo.1, htx, hgo.2, sn_t_N hN _, fun post hp => ?_, fun post hp => ?_⟩
    · refine xm_flush (W := W) hD hI (sr_W_X hW) hN (fun z => absurd z (by omega)) (fun _ s n hs hn c1 c2 M C V B G => ?_)
      subst hs hn
      exact hp c1 c2 M C V B G
    · refine ym_flush (W := W) hD hI (sr_W_Y hW) hN aV hV (fun z => absurd z (by omega)) (fun _ s n hs hn V' KD SP WT IS MA SC hV' => ?_)
      subst hs hn
      exact hp V' KD SP WT IS MA SC hV'
  · obtain rfl : st = dc := by omega
    refine ⟨D, st, sg, aV, aNN, aNC, hD, hT, hI, hN, fun post hp => ?_, fun post hp => ?_⟩
    · exact xm_flush (W := W) hD hI (sr_W_X hW) hN (fun _ => hp fsc fsl aM aC aW aB aG) (fun z => absurd z (by omega))
    · exact ym_flush (W := W) hD hI (sr_W_Y hW) hN aV hV (fun _ => hp bV bKD bSP bWT bIS bMA bSC hV) (fun z => absurd z (by omega))
end
