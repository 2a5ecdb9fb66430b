section
variable {gdc gsg gnn gpt gkp : Int32} {bN bP bL bT bS bD bV bPT bTK bLN bKD bSP bWT bIS bMA bNN bNC bKN bSH bIH : Nat → Int32} {bSC bKS bHS : Nat → Int64}
/-- what the first round of look leaves of one row -/
theorem yl_prec {k d : Nat} {bp : Int32} {H : Nat → Bool} {D : sd_D} {sco : Nat → Nat} (hk : k < 32) (hd : d < 32) (hD : sd_ok D) (hs : ∀ e, sco e ≤ 405) (hSk : bHS k = lN (sco k)) (hSd : bHS d = lN (sco d)) {post : Int32 → Prop}
    (hp : post (sg_B (rk_pr (fun i => (if bp = 0 then nI (sco i) else -(D.2.1 i) : Int32).toInt) k d))) : wpY_precedes post (gdc, gsg, gnn, gpt, gkp, D.1, D.2.1, D.2.2.1, D.2.2.2.1, D.2.2.2.2.1, D.2.2.2.2.2, bV, bPT, bTK, bLN, bKD, bSP, bWT, bIS, bMA, bSC, bNN, bNC, bKN, bKS, bSH, bIH, bHS) (nI k) (nI d) bp := by
  have ek : (nI k).toNatClampNeg = k := nI_clamp (by omega)
  have ed : (nI d).toNatClampNeg = d := nI_clamp (by omega)
  have hvk : vp_in (nI k) 32 := vp_in_nI hk (by omega)
  have hvd : vp_in (nI d) 32 := vp_in_nI hd (by omega)
  have f44 : ∀ x y : Int64, (x < y ↔ (if bp = 0 then nI (sco d) else -(D.2.1 d) : Int32).toInt < (if bp = 0 then nI (sco k) else -(D.2.1 k) : Int32).toInt) → (x = y ↔ (if bp = 0 then nI (sco k) else -(D.2.1 k) : Int32).toInt = (if bp = 0 then nI (sco d) else -(D.2.1 d) : Int32).toInt) →
      wY_precedes_44 post (nI k) (nI d) x y gdc gsg gnn gpt gkp D.1 D.2.1 D.2.2.1 D.2.2.2.1 D.2.2.2.2.1 D.2.2.2.2.2 bV bPT bTK bLN bKD bSP bWT bIS bMA bSC bNN bNC bKN bKS bSH bIH bHS := by
    intro x y h1 h2
    refine br_c (fun hc => ?_) (fun hc => br_c (fun he => br_c (fun hl => ?_) (fun hl => ?_)) (fun he => ?_))
    · rw [rk_pr_iff.mpr (Or.inl (h1.mp hc))] at hp
      exact hp
    · have hl' : d ≤ k := (nI_leI (by omega) (by omega)).mp hl
      rw [rk_pr_ff.mpr (fun z => by
        rcases z with z | z
        · exact hc (h1.mpr z)
        · omega)] at hp
      exact hp
    · have hl' : ¬ d ≤ k := fun z => hl ((nI_leI (by omega) (by omega)).mpr z)
      rw [rk_pr_iff.mpr (Or.inr ⟨h2.mp he, by omega⟩)] at hp
      exact hp
    · rw [rk_pr_ff.mpr (fun z => by
        rcases z with z | z
        · exact hc (h1.mpr z)
        · exact he (h2.mpr z.1))] at hp
      exact hp
  have neg : ∀ n : Nat, n ≤ 405 → (-(lN n)).toInt = -(n : Int) := by
    intro n hn
    rw [Int64.toInt_neg_of_ne_intMin (by
      intro z
      have := pk_lT (n := n) (by omega)
      rw [z] at this
      have h3 : Int64.minValue.toInt = -9223372036854775808 := by decide
      omega), pk_lT (by omega)]
  have negI : ∀ n : Nat, n < 100 → (-(nI n)).toInt = -(n : Int) := by
    intro n hn
    rw [Int32.toInt_neg_of_ne_intMin (by
      intro z
      have := nI_toInt (n := n) (by omega)
      rw [z] at this
      have h3 : Int32.minValue.toInt = -2147483648 := by decide
      omega), nI_toInt (by omega)]
  by_cases hb : bp = 0
  · refine br_t hb ⟨hvk, br_t hb ⟨hvd, ?_⟩⟩
    rw [ek, ed, hSk, hSd]
    have a1 := neg (sco k) (hs k)
    have a2 := neg (sco d) (hs d)
    have a3 := nI_toInt (n := sco k) (by have := hs k; omega)
    have a4 := nI_toInt (n := sco d) (by have := hs d; omega)
    refine f44 _ _ ?_ ?_
    · rw [if_pos hb, if_pos hb, Int64.lt_iff_toInt_lt, a1, a2, a3, a4]
      omega
    · rw [if_pos hb, if_pos hb, ← Int64.toInt_inj, a1, a2, a3, a4]
      omega
  · refine br_f hb ⟨hvk, br_f hb ⟨hvd, ?_⟩⟩
    obtain ⟨p1, p2⟩ := sd_ok_P hD k
    obtain ⟨q1, q2⟩ := sd_ok_P hD d
    rw [ek, ed]
    have a1 := negI _ p2
    have a2 := negI _ q2
    refine f44 _ _ ?_ ?_
    · rw [if_neg hb, if_neg hb, p1, q1, a1, a2, nI_l (by omega), nI_l (by omega), lN_lt (by omega) (by omega)]
      omega
    · rw [if_neg hb, if_neg hb, p1, q1, a1, a2, nI_l (by omega), nI_l (by omega), lN_eq (by omega) (by omega)]
      omega
end
