def sl_up (p : Nat → Bool) : Nat → List Nat
  | 0 => []
  | m + 1 => if p (7 - m) = true then (7 - m) :: sl_up p m else sl_up p m
theorem sl_up_r (p : Nat → Bool) : ∀ m, m ≤ 8 → sl_up p m = (List.range' (8 - m) m).filter p
  | 0, _ => rfl
  | m + 1, h => by
    have e : 8 - (m + 1) + 1 = 8 - m := by omega
    have e2 : 7 - m = 8 - (m + 1) := by omega
    rw [List.range'_succ, e, List.filter_cons, ← sl_up_r p m (by omega), ← e2]
    rfl
theorem sl_up_8 (D : sd_D) (d : Nat) : sl_up (fun w => sd_hw D.2.2.2.1 D.2.2.1 w d) 8 = sl_ws D d 8 := by
  rw [sl_up_r _ 8 (Nat.le_refl _)]
  unfold sl_ws
  rw [List.range_eq_range']
theorem sl_up_lt (p : Nat → Bool) : ∀ m w, w ∈ sl_up p m → w < 8
  | 0, w, h => absurd h (by simp [sl_up])
  | m + 1, w, h => by
    have h' : w ∈ (if p (7 - m) = true then (7 - m) :: sl_up p m else sl_up p m) := h
    split at h'
    · rcases List.mem_cons.mp h' with h1 | h1
      · omega
      · exact sl_up_lt p m w h1
    · exact sl_up_lt p m w h'
theorem sl_up_len (p : Nat → Bool) : ∀ m, (sl_up p m).length ≤ m
  | 0 => Nat.le_refl _
  | m + 1 => by
    have := sl_up_len p m
    show (if p (7 - m) = true then (7 - m) :: sl_up p m else sl_up p m).length ≤ m + 1
    split
    · rw [List.length_cons]; omega
    · omega
def sl_sh (a : Nat → Int32) (lo hi : Nat) : Nat → Int32 := fun j => if lo ≤ j ∧ j ≤ hi then a (j - 2) else a j
theorem sl_sh_0 (a : Nat → Int32) {lo hi : Nat} (h : hi < lo) : sl_sh a lo hi = a := by
  funext j
  unfold sl_sh
  rw [if_neg (by omega)]
theorem sl_sh_s (a : Nat → Int32) {lo hi : Nat} (h : lo ≤ hi) (h2 : 2 ≤ lo) : upd (sl_sh a (lo + 1) hi) lo (sl_sh a (lo + 1) hi (lo - 2)) = sl_sh a lo hi := by
  funext j
  unfold upd
  by_cases e : j = lo
  · subst e
    rw [if_pos rfl]
    unfold sl_sh
    rw [if_neg (by omega), if_pos (by omega)]
  · rw [if_neg e]
    unfold sl_sh
    by_cases h3 : lo + 1 ≤ j ∧ j ≤ hi
    · rw [if_pos h3, if_pos (by omega)]
    · rw [if_neg h3, if_neg (by omega)]
theorem sr_H_cons {a : Nat → Int32} {b t : Nat} {q : List Nat} (h1 : a b = nI t) (h : sr_H a (b + 1) q) : sr_H a b (t :: q) := by
  intro i hi
  cases i with
  | zero => exact h1
  | succ i =>
    have hi' : i + 1 < q.length + 1 := hi
    have := h i (by omega)
    rw [show b + (i + 1) = b + 1 + i by omega, this]; rfl
theorem sr_H_fr {a a' : Nat → Int32} {b c : Nat} {q : List Nat} (h : sr_H a b q) (hf : ∀ i, i < q.length → a' (c + i) = a (b + i)) : sr_H a' c q := fun i hi => by rw [hf i hi]; exact h i hi
section
variable {gdc gsg gnn gpt gkp : Int32} {bN bP bL bT bS bD bV bPT bTK bLN bKD bSP bWT bIS bMA bNN bNC bKN bSH bIH : Nat → Int32} {bSC bKS bHS : Nat → Int64}
theorem yx_move {li n : Nat} (hli : 1 ≤ li) (hl6 : li < 6) (hn : n ≤ 12) (hln : bLN 0 = nI n) {post : SY → Prop} (hp : post (gdc, gsg, gnn, gpt, gkp, bN, bP, bL, bT, bS, bD, bV, bPT, sd_cy bTK (16 * li) bTK 0 n, upd (upd bLN li (nI n)) 0 0, bKD, bSP, bWT, bIS, bMA, bSC, bNN, bNC, bKN, bKS, bSH, bIH, bHS)) : wpY_move post (gdc, gsg, gnn, gpt, gkp, bN, bP, bL, bT, bS, bD, bV, bPT, bTK, bLN, bKD, bSP, bWT, bIS, bMA, bSC, bNN, bNC, bKN, bKS, bSH, bIH, bHS) (nI li) := by
  have key : ∀ m i, i + m = n → wY_move_2 post (nI li) gdc gsg gnn gpt gkp (m + 1) (nI i) bN bP bL bT bS bD bV bPT (sd_cy bTK (16 * li) bTK 0 i) bLN bKD bSP bWT bIS bMA bSC bNN bNC bKN bKS bSH bIH bHS := by
    intro m
    induction m with
    | zero =>
      intro i h
      obtain rfl : i = n := by omega
      show (bLN 0 ≤ nI i → _) ∧ (¬ bLN 0 ≤ nI i → _)
      rw [hln]
      refine br_t (nI_le (Nat.le_refl _) (by omega)) ⟨vp_in_nI hl6 (by omega), ?_⟩
      rw [nI_clamp (by omega)]
      exact nm_e (nm_e hp)
    | succ m ih =>
      intro i h
      have e3 := sd_cy_s bTK (16 * li) bTK 0 i
      rw [Nat.zero_add] at e3
      have e4 : sd_cy bTK (16 * li) bTK 0 i i = bTK i := sd_cy_out (by omega)
      show (bLN 0 ≤ nI i → _) ∧ (¬ bLN 0 ≤ nI i → _)
      rw [hln]
      refine br_f (nI_ge (by omega) (by omega)) ?_
      rw [sy_16, nI_add, nI_clamp (n := i) (by omega), nI_clamp (n := 16 * li + i) (by omega), e4]
      exact ⟨vp_in_nI (by omega) (by omega), vp_in_nI (by omega) (by omega), nm_r e3 (nm_r (nI_1 _) (ih (i + 1) (by omega)))⟩
  have k0 := key n 0 (Nat.zero_add _)
  rw [sd_cy_0] at k0
  exact Exists.intro (n + 1) k0
theorem yx_expr {q : List Nat} {li : Nat} (hl6 : li < 6) (h12 : q.length ≤ 12) (htk : sv_tks q) (hln : bLN li = nI q.length) (hH : sr_H bTK (16 * li) q) {post : Int32 → SY → Prop}
    (h1 : (∃ v, sq_b q = some [v]) → ∀ K : Nat → Int32, post 1 (gdc, gsg, gnn, gpt, gkp, bN, bP, bL, bT, bS, bD, bV, bPT, bTK, bLN, K, bSP, bWT, bIS, bMA, bSC, bNN, bNC, bKN, bKS, bSH, bIH, bHS)) (h0 : ¬ (∃ v, sq_b q = some [v]) → ∀ K : Nat → Int32, post 0 (gdc, gsg, gnn, gpt, gkp, bN, bP, bL, bT, bS, bD, bV, bPT, bTK, bLN, K, bSP, bWT, bIS, bMA, bSC, bNN, bNC, bKN, bKS, bSH, bIH, bHS)) :
    wpY_isExpression post (gdc, gsg, gnn, gpt, gkp, bN, bP, bL, bT, bS, bD, bV, bPT, bTK, bLN, bKD, bSP, bWT, bIS, bMA, bSC, bNN, bNC, bKN, bKS, bSH, bIH, bHS) (nI li) := by
  have key : ∀ m i (K : Nat → Int32) (due : List Bool), i + m = q.length → sx_K K due → due.length ≤ i + 1 → sq_f due (q.drop i) = sq_f [false] q →
      wY_isExpression_14 post (nI li) gdc gsg gnn gpt gkp (m + 1) (nI due.length) (nI (16 * li + i)) bN bP bL bT bS bD bV bPT bTK bLN K bSP bWT bIS bMA bSC bNN bNC bKN bKS bSH bIH bHS := by
    intro m
    induction m with
    | zero =>
      intro i K due h hK hle hf
      obtain rfl : i = q.length := by omega
      rw [List.drop_length] at hf
      refine ⟨vp_in_nI hl6 (by omega), ?_⟩
      rw [nI_clamp (n := li) (by omega), hln, sy_16, nI_add]
      refine br_t (nI_le (Nat.le_refl _) (by omega)) ?_
      cases due with
      | nil => exact br_t rfl (h1 ((sq_top q).mp (by rw [← hf]; rfl)) K)
      | cons k due =>
        rw [List.length_cons] at hle ⊢
        refine br_f (nI_ne0 (by omega) (by omega)) (h0 (fun z => ?_) K)
        have := (sq_top q).mpr z
        rw [← hf] at this
        exact absurd this (by simp [sq_f])
    | succ m ih =>
      intro i K due h hK hle hf
      have hdr := sr_drop (l := q) (i := i) (by omega)
      have hQ := hH i (by omega)
      have ht := htk _ (sr_getD_mem (l := q) (i := i) (by omega))
      rw [hdr] at hf
      generalize q.getD i 0 = t at hQ ht hf
      have ht2 : t < 2 ^ 31 := by unfold sv_tk at ht; omega
      refine ⟨vp_in_nI hl6 (by omega), ?_⟩
      rw [nI_clamp (n := li) (by omega), hln, sy_16, nI_add]
      refine br_f (nI_ge (by omega) (by omega)) ?_
      have bad : sq_f [false] q = false → post 0 (gdc, gsg, gnn, gpt, gkp, bN, bP, bL, bT, bS, bD, bV, bPT, bTK, bLN, K, bSP, bWT, bIS, bMA, bSC, bNN, bNC, bKN, bKS, bSH, bIH, bHS) := by
        intro hz
        refine h0 (fun z => ?_) K
        have := (sq_top q).mpr z
        rw [hz] at this
        exact absurd this (by decide)
      match due, hK, hle, hf with
      | [], hK, hle, hf => exact br_t rfl (bad hf.symm)
      | k :: due, hK, hle, hf =>
        rw [List.length_cons] at hle ⊢
        obtain ⟨k1, k2⟩ := hK
        refine br_f (nI_ne0 (by omega) (by omega)) (nm_r (pk_m1 _) ⟨vp_in_nI (by omega) (by omega), ?_⟩)
        rw [nI_clamp (n := due.length) (by omega), nI_clamp (n := 16 * li + i) (by omega)]
        refine nm_r k1 ⟨vp_in_nI (by omega) (by omega), nm_r hQ ?_⟩
        have hf' : (if k = true ∧ sq_sp t = false then false else sq_f (if 8 ≤ t ∧ t ≤ 12 then sq_sp t :: sq_sp t :: due else due) (q.drop (i + 1))) = sq_f [false] q := hf
        have l98 : ∀ (z : Bool), sq_sp t = z → sq_f (if 8 ≤ t ∧ t ≤ 12 then z :: z :: due else due) (q.drop (i + 1)) = sq_f [false] q →
            ∃ n98 : Nat, wY_isExpression_98 post (wY_isExpression_14 post (nI li) gdc gsg gnn gpt gkp (m + 1)) (nI li) (nI (16 * li + i)) (nI t) (sg_B z) gdc gsg gnn gpt gkp n98 (nI due.length) 0 bN bP bL bT bS bD bV bPT bTK bLN K bSP bWT bIS bMA bSC bNN bNC bKN bKS bSH bIH bHS := by
          intro z hz hq
          by_cases hj : 8 ≤ t ∧ t ≤ 12
          · rw [if_pos hj] at hq
            have j1 : ¬ nI t < 8 := nI_nlt (b := 8) hj.1 (by omega)
            have j2 : ¬ 12 < nI t := nI_nlt (a := 12) hj.2 (by decide)
            have e : (due.length + 1 + 1) = (z :: z :: due).length := rfl
            have J := ih (i + 1) (upd (upd K due.length (sg_B z)) (due.length + 1) (sg_B z)) (z :: z :: due) (by omega) ⟨pk_us, by rw [pk_un (by omega)]; exact pk_us, sx_K_fr (fun p hp => by rw [pk_un (by omega), pk_un (by omega)]) k2⟩ (by rw [← e]; omega) hq
            have v1 : vp_in (nI due.length) 30 := vp_in_nI (by omega) (by omega)
            have v2 : vp_in (nI (due.length + 1)) 30 := vp_in_nI (by omega) (by omega)
            have c1 : (nI due.length).toNatClampNeg = due.length := nI_clamp (by omega)
            have c2 : (nI (due.length + 1)).toNatClampNeg = due.length + 1 := nI_clamp (by omega)
            refine ⟨3, br_f (by decide) (br_f j1 (br_f j2 (nm_r (nI_1 _) ?_)))⟩
            rw [c1]
            cases z with
            | false =>
              refine br_t rfl ⟨v1, nm_e (nm_r (nI_1 0) (br_f (by decide) (br_f j1 (br_f j2 (nm_r (nI_1 _) (br_t rfl ⟨v2, nm_r ?_ (nm_r (nI_1 1) (br_t (by decide) (nm_r (nI_1 _) J)))⟩))))))⟩
              rw [c2]; rfl
            | true =>
              refine br_f (by decide) ⟨v1, nm_e (nm_r (nI_1 0) (br_f (by decide) (br_f j1 (br_f j2 (nm_r (nI_1 _) (br_f (by decide) ⟨v2, nm_r ?_ (nm_r (nI_1 1) (br_t (by decide) (nm_r (nI_1 _) J)))⟩))))))⟩
              rw [c2]; rfl
          · rw [if_neg hj] at hq
            have J := ih (i + 1) K due (by omega) k2 (by omega) hq
            refine ⟨1, br_f (by decide) ?_⟩
            rcases Nat.lt_or_ge t 8 with h8 | h8
            · exact br_t (nI_lt (b := 8) h8 (by decide)) (nm_r (nI_1 _) J)
            · exact br_f (nI_nlt (b := 8) h8 ht2) (br_t (nI_lt (a := 12) (by omega) ht2) (nm_r (nI_1 _) J))
        have f80 : ∀ (z : Bool), sq_sp t = z → wY_isExpression_80 post (wY_isExpression_14 post (nI li) gdc gsg gnn gpt gkp (m + 1)) (nI li) (nI due.length) (nI (16 * li + i)) (sg_B k) (nI t) (sg_B z) gdc gsg gnn gpt gkp bN bP bL bT bS bD bV bPT bTK bLN K bSP bWT bIS bMA bSC bNN bNC bKN bKS bSH bIH bHS := by
          intro z hz
          rw [hz] at hf'
          cases k with
          | true =>
            refine br_t rfl ?_
            cases z with
            | false =>
              rw [if_pos ⟨rfl, rfl⟩] at hf'
              exact br_t rfl (bad hf'.symm)
            | true =>
              rw [if_neg (fun zz => absurd zz.2 (by decide))] at hf'
              exact br_f (by decide) (l98 true hz hf')
          | false =>
            rw [if_neg (fun zz => absurd zz.1 (by decide))] at hf'
            exact br_f (by decide) (l98 z hz hf')
        by_cases h8 : t < 8
        · exact br_t (nI_lt (b := 8) h8 (by decide)) (f80 true (decide_eq_true (Or.inl h8)))
        · refine br_f (nI_nlt (b := 8) (by omega) ht2) ?_
          by_cases h11 : t = 11
          · exact br_t (by rw [h11]; rfl) (f80 true (decide_eq_true (by omega)))
          · refine br_f (fun z => h11 ((nI_eq (b := 11) ht2 (by decide)).mp z)) ?_
            by_cases h12' : t = 12
            · exact br_t (by rw [h12']; rfl) (f80 true (decide_eq_true (by omega)))
            · exact br_f (fun z => h12' ((nI_eq (b := 12) ht2 (by decide)).mp z)) (f80 false (decide_eq_false (by omega)))
  have k0 := key q.length 0 (upd bKD 0 0) [false] (Nat.zero_add _) ⟨pk_us, trivial⟩ (Nat.le_refl _) (by rw [List.drop_zero])
  exact nm_e (nm_r (sy_16 li) (Exists.intro (q.length + 1) k0))
theorem yx_like {D : sd_D} {dc st lim d : Nat} (hd : d < dc) (hD : sd_ok D) (hT : sd_tx D.2.2.2.1) (hn : 0 < sd_n D.2.2.1 d) (hP : sd_P D.2.2.2.2.1 st dc) (hlim : lim ≤ 10) {post : Int32 → SY → Prop}
    (hp : ∀ (TK KD SP WT IS MA KN SH IH : Nat → Int32) (SC KS HS : Nat → Int64), (∀ j, j < 80 → TK j = bTK j) →
      (∀ e, e < dc → sf_H D st (nI d) (sv_ly (sl_ws D d 8)) e = true → rk_bf (sf_H D st (nI d) (sv_ly (sl_ws D d 8))) (fun i => (sf_R D st 0 (sv_ly (sl_ws D d 8)) i).toInt) dc e < lim → KN (rk_bf (sf_H D st (nI d) (sv_ly (sl_ws D d 8))) (fun i => (sf_R D st 0 (sv_ly (sl_ws D d 8)) i).toInt) dc e) = D.1 e ∧ KS (rk_bf (sf_H D st (nI d) (sv_ly (sl_ws D d 8))) (fun i => (sf_R D st 0 (sv_ly (sl_ws D d 8)) i).toInt) dc e) = lN (sf_S D st (sv_ly (sl_ws D d 8)) e)) →
      (∀ k, k < 10 → SH k = nI (sg_cn (sf_C D st (nI d) (sv_ly (sl_ws D d 8)) k) dc)) →
      post (nI (sg_cn (sf_H D st (nI d) (sv_ly (sl_ws D d 8))) dc)) (nI dc, gsg, gnn, gpt, nI (min (sg_cn (sf_H D st (nI d) (sv_ly (sl_ws D d 8))) dc) lim), D.1, D.2.1, D.2.2.1, D.2.2.2.1, D.2.2.2.2.1, D.2.2.2.2.2, bV, bPT, TK, upd bLN 5 (nI (sv_ly (sl_ws D d 8)).length), KD, SP, WT, IS, MA, SC, bNN, bNC, KN, KS, SH, IH, HS)) :
    ∃ n42 : Nat, wY_like_42 post (nI lim) (nI d) (nI dc) gsg gnn gpt gkp n42 0 8 7 D.1 D.2.1 D.2.2.1 D.2.2.2.1 D.2.2.2.2.1 D.2.2.2.2.2 bV bPT bTK bLN bKD bSP bWT bIS bMA bSC bNN bNC bKN bKS bSH bIH bHS := by
  have hL := sd_ok_L hD
  have h32 := hP.2.1
  have hne := sl_ws_ne hT hn
  have h8lt : ∀ w, w ∈ sl_ws D d 8 → w < 8 := fun w hw => sl_ws_lt hw
  have hup8 := sl_up_8 D d
  generalize hq : (fun w => sd_hw D.2.2.2.1 D.2.2.1 w d) = p at hup8
  have key : ∀ j m (TK : Nat → Int32) (x5 : Int32), m + j = 8 → (∀ i, i < 80 → TK i = bTK i) → sr_H TK 80 (sv_ly (sl_up p m)) → (sl_up p m = [] → x5 = 8) → (sl_up p m ≠ [] → ∃ n, n < 8 ∧ x5 = nI n) →
      wY_like_42 post (nI lim) (nI d) (nI dc) gsg gnn gpt gkp (j + 1) (nI (sv_ly (sl_up p m)).length) x5 (nI j - 1) D.1 D.2.1 D.2.2.1 D.2.2.2.1 D.2.2.2.2.1 D.2.2.2.2.2 bV bPT TK bLN bKD bSP bWT bIS bMA bSC bNN bNC bKN bKS bSH bIH bHS := by
    intro j
    induction j with
    | zero =>
      intro m TK x5 hm hlow hH _ _
      obtain rfl : m = 8 := by omega
      rw [hup8] at hH ⊢
      have hlen := sv_ly_len (sl_ws D d 8) hne
      have hl8 : (sl_ws D d 8).length ≤ 8 := by rw [← hup8]; exact sl_up_len p 8
      obtain ⟨kk, hkk⟩ := sv_ly_b (sl_ws D d 8) hne h8lt
      refine br_t (by decide) (nm_e (yl_look (l := sv_ly (sl_ws D d 8)) hD hP (by omega) pk_us hH (sv_ly_tk _ h8lt) hkk hlim ?_))
      intro KD SP WT IS MA KN SH IH SC KS HS hK hS
      exact hp TK KD SP WT IS MA KN SH IH SC KS HS hlow hK hS
    | succ j ih =>
      intro m TK x5 hm hlow hH hx8 hx
      have hmj : 7 - m = j := by omega
      have I := ih (m + 1)
      have es : sl_up p (m + 1) = if p j = true then j :: sl_up p m else sl_up p m := by
        show (if p (7 - m) = true then (7 - m) :: sl_up p m else sl_up p m) = _
        rw [hmj]
      rw [es] at I
      have hpj : p j = sd_hs D.2.2.2.1 (12 * d) (nI j) (sd_n D.2.2.1 d) := by rw [← hq]; rfl
      have hul := sl_up_len p m
      have em : nI j + (-1) = nI j - 1 := (Int32.sub_eq_add_neg _ _).symm
      rw [nI_pred]
      refine br_f (nI_pos (by omega)) ?_
      refine yr_has (d := d) (len := sd_n D.2.2.1 d) (by omega) (hL d).1 (hL d).2 ?_
      rw [← hpj]
      cases hh : p j with
      | false =>
        rw [hh, if_neg (by decide)] at I
        exact br_t rfl (nm_r em (I TK x5 (by omega) hlow hH hx8 hx))
      | true =>
        rw [hh, if_pos rfl] at I
        refine br_f (by decide) (nm_r (nI_1 _) ?_)
        cases hU : sl_up p m with
        | nil =>
          rw [hU] at I
          have e8 := hx8 hU
          have L0 : (sv_ly ([] : List Nat)).length = 0 := rfl
          rw [L0]
          refine ⟨1, br_f (by decide) (br_t (nI_le (a := 0) (b := 0) (Nat.le_refl _) (by decide)) ?_)⟩
          have c8 : (8 : Int32) ≤ x5 := by rw [e8]; decide
          have I' := I (upd TK 80 (nI j)) (nI j) (by omega) (fun i hi => by rw [pk_un (by omega)]; exact hlow i hi) (sr_H_cons pk_us (sr_H_0 _ _)) (fun z => absurd z (by simp)) (fun _ => ⟨j, by omega, rfl⟩)
          exact br_t c8 ⟨by exact vp_in_nI (n := 80) (by omega) (by omega), nm_r (show upd TK (80 : Int32).toNatClampNeg (nI j) = upd TK 80 (nI j) from rfl) (br_t c8 (br_t c8 (nm_r (show nI 0 + 1 = nI 1 from nI_1 0) (nm_r em I'))))⟩
        | cons v us =>
          rw [hU] at I hH
          obtain ⟨n5, hn5, e5⟩ := hx (by rw [hU]; simp)
          have c8 : ¬ (8 : Int32) ≤ x5 := by rw [e5]; exact nI_ge (b := 8) hn5 (by decide)
          rw [hU, List.length_cons] at hul
          have hlen := sv_ly_len (v :: us) (by simp)
          rw [List.length_cons] at hlen
          generalize hln : (sv_ly (v :: us)).length = n at hlen
          have hnb : n ≤ 13 := by omega
          have l66 : ∀ k, k ≤ n + 1 → wY_like_66 post (wY_like_42 post (nI lim) (nI d) (nI dc) gsg gnn gpt gkp (j + 1)) (nI lim) (nI d) (nI n) x5 (nI j) (nI dc) gsg gnn gpt gkp (k + 1) (nI k) D.1 D.2.1 D.2.2.1 D.2.2.2.1 D.2.2.2.2.1 D.2.2.2.2.2 bV bPT (sl_sh TK (80 + k + 2) (82 + n)) bLN bKD bSP bWT bIS bMA bSC bNN bNC bKN bKS bSH bIH bHS := by
            intro k
            induction k with
            | zero =>
              intro _
              refine br_t (nI_le (a := 0) (b := 0) (Nat.le_refl _) (by decide)) (br_f c8 ?_)
              have I' := I (upd (upd (sl_sh TK 82 (82 + n)) 80 9) 81 (nI j)) (nI j) (by omega) (fun i hi => by
                rw [pk_un (by omega), pk_un (by omega)]
                unfold sl_sh
                rw [if_neg (by omega)]
                exact hlow i hi) (by
                show sr_H _ 80 (9 :: j :: sv_ly (v :: us))
                refine sr_H_cons (by rw [pk_un (by omega), pk_us]; rfl) (sr_H_cons pk_us (sr_H_fr hH (fun i hi => ?_)))
                rw [pk_un (by omega), pk_un (by omega)]
                unfold sl_sh
                rw [if_pos (by rw [hln] at hi; omega)]
                congr 1; omega) (fun z => absurd z (by simp)) (fun _ => ⟨j, by omega, rfl⟩)
              have e2 : (sv_ly (j :: v :: us)).length = n + 2 := by
                show (sv_ly (v :: us)).length + 1 + 1 = _
                rw [hln]
              rw [e2] at I'
              exact ⟨by exact vp_in_nI (n := 80) (by omega) (by omega), nm_r (show upd (sl_sh TK (80 + 0 + 2) (82 + n)) (80 : Int32).toNatClampNeg 9 = upd (sl_sh TK 82 (82 + n)) 80 9 from rfl) (br_f c8 (nm_e (br_f c8 (nm_r (show nI n + 2 = nI (n + 2) from nI_add n 2) (nm_r em I')))))⟩
            | succ k ihk =>
              intro hk
              have J := ihk (by omega)
              have e1 : 80 + nI (k + 1) - 1 = nI (80 + k) := by
                show nI 80 + nI (k + 1) - 1 = _
                rw [nI_add, show 80 + (k + 1) = 80 + k + 1 by omega, nI_pred]
              have e2 : 80 + nI (k + 1) + 1 = nI (82 + k) := by
                show nI 80 + nI (k + 1) + 1 = _
                rw [nI_add, nI_1]
                exact congrArg nI (by omega)
              have e3 := sl_sh_s TK (lo := 82 + k) (hi := 82 + n) (by omega) (by omega)
              rw [show 82 + k + 1 = 80 + (k + 1) + 2 by omega, show 82 + k - 2 = 80 + k by omega, show sl_sh TK (82 + k) (82 + n) = sl_sh TK (80 + k + 2) (82 + n) by rw [show 82 + k = 80 + k + 2 by omega]] at e3
              refine br_f (nI_nle (by omega) (by omega)) (br_f (nI_nle (by omega) (by omega)) ?_)
              rw [e1, e2, nI_clamp (n := 80 + k) (by omega), nI_clamp (n := 82 + k) (by omega)]
              exact ⟨vp_in_nI (by omega) (by omega), vp_in_nI (by omega) (by omega), nm_r e3 (nm_r (pk_m1 _) J)⟩
          have k66 := l66 (n + 1) (Nat.le_refl _)
          rw [sl_sh_0 TK (by omega)] at k66
          exact Exists.intro (n + 1 + 1) k66
  exact Exists.intro 9 (key 8 0 bTK 8 rfl (fun _ _ => rfl) (sr_H_0 _ _) (fun _ => rfl) (fun z => absurd rfl z))
end
