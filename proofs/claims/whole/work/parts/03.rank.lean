/-! ranks: k stands before e -/
def rk_pr (R : Nat → Int) (k e : Nat) : Bool := decide (R e < R k ∨ (R k = R e ∧ k < e))
def rk_bf (H : Nat → Bool) (R : Nat → Int) (n e : Nat) : Nat := sg_cn (fun k => H k && rk_pr R k e) n
theorem rk_pr_iff {R : Nat → Int} {k e : Nat} : rk_pr R k e = true ↔ (R e < R k ∨ (R k = R e ∧ k < e)) := decide_eq_true_iff
theorem rk_pr_ff {R : Nat → Int} {k e : Nat} : rk_pr R k e = false ↔ ¬ (R e < R k ∨ (R k = R e ∧ k < e)) := decide_eq_false_iff_not
theorem rk_lt {H : Nat → Bool} {R : Nat → Int} {n e f : Nat} (he : e < n) (hH : H e = true) (h : rk_pr R e f = true) : rk_bf H R n e < rk_bf H R n f := by
  apply sg_cn_lt n e
  · intro i _ hi
    have h1 := (Bool.and_eq_true_iff.mp hi)
    have h2 := rk_pr_iff.mp h1.2
    have h3 := rk_pr_iff.mp h
    exact Bool.and_eq_true_iff.mpr ⟨h1.1, rk_pr_iff.mpr (by omega)⟩
  · exact he
  · exact Bool.and_eq_true_iff.mpr ⟨hH, h⟩
  · show (H e && rk_pr R e e) = false
    rw [rk_pr_ff.mpr (by omega), Bool.and_false]
theorem rk_inj {H : Nat → Bool} {R : Nat → Int} {n e f : Nat} (he : e < n) (hf : f < n) (hH : H e = true) (hF : H f = true) (h : e ≠ f) : rk_bf H R n e ≠ rk_bf H R n f := by
  by_cases h1 : rk_pr R e f = true
  · have := rk_lt he hH h1; omega
  · have h2 : ¬ (R f < R e ∨ (R e = R f ∧ e < f)) := fun z => h1 (rk_pr_iff.mpr z)
    have := rk_lt (n := n) (R := R) (f := e) hf hF (rk_pr_iff.mpr (by omega)); omega
theorem rk_succ (H : Nat → Bool) (R : Nat → Int) (n e : Nat) : rk_bf H R (n + 1) e = rk_bf H R n e + (if (H n && rk_pr R n e) = true then 1 else 0) := rfl
/-- the first n rows: hc kept, each place p has its hit -/
def rk_I (H : Nat → Bool) (rk num sco : Nat → Int32) (lim n hc : Nat) (hN hS hR : Nat → Int32) : Prop :=
  hc = min (sg_cn H n) lim ∧ ∀ p, p < hc → ∃ e, e < n ∧ H e = true ∧ rk_bf H (fun i => (rk i).toInt) n e = p ∧ hN p = num e ∧ hS p = sco e ∧ hR p = rk e
theorem rk_no {H : Nat → Bool} {rk num sco : Nat → Int32} {lim n hc : Nat} {hN hS hR : Nat → Int32} (I : rk_I H rk num sco lim n hc hN hS hR) (h : H n = false) :
    rk_I H rk num sco lim (n + 1) hc hN hS hR := by
  obtain ⟨h1, h2⟩ := I
  refine ⟨?_, ?_⟩
  · rw [h1]
    show min (sg_cn H n) lim = min (sg_cn H n + (if H n = true then 1 else 0)) lim
    rw [h]; rfl
  · intro p hp
    obtain ⟨e, he, hH, hb, hr⟩ := h2 p hp
    refine ⟨e, by omega, hH, ?_, hr⟩
    rw [rk_succ, h, hb]; rfl
/-- the place: behind the last that is not less -/
def rk_P (hR : Nat → Int32) (hc : Nat) (x : Int32) (pl : Nat) : Prop :=
  pl ≤ hc ∧ (pl = 0 ∨ x ≤ hR (pl - 1)) ∧ ∀ p, pl ≤ p → p < hc → ¬ x ≤ hR p
theorem rk_up {H : Nat → Bool} {rk num sco : Nat → Int32} {lim n hc pl : Nat} {hN hS hR : Nat → Int32} (I : rk_I H rk num sco lim n hc hN hS hR)
    (hP : rk_P hR hc (rk n) pl) {p : Nat} (hp : p < pl) : ∃ e, e < n ∧ H e = true ∧ rk_bf H (fun i => (rk i).toInt) (n + 1) e = p ∧ hN p = num e ∧ hS p = sco e ∧ hR p = rk e := by
  obtain ⟨h1, h2⟩ := I
  obtain ⟨hle, h0, _⟩ := hP
  obtain ⟨e, he, hH, hb, hr⟩ := h2 p (by omega)
  obtain ⟨e', he', hH', hb', hr'⟩ := h2 (pl - 1) (by omega)
  have hx : rk n ≤ hR (pl - 1) := by
    rcases h0 with h0 | h0
    · omega
    · exact h0
  rw [hr'.2.2, Int32.le_iff_toInt_le] at hx
  refine ⟨e, he, hH, ?_, hr⟩
  rw [rk_succ, hb]
  have : rk_pr (fun i => (rk i).toInt) n e = false := by
    apply rk_pr_ff.mpr
    intro hc
    have hlt : (rk e).toInt < (rk n).toInt := by
      rcases hc with hc | hc
      · exact hc
      · omega
    have h5 := rk_lt (H := H) (R := fun i => (rk i).toInt) (f := e) he' hH' (rk_pr_iff.mpr (Or.inl (by show (rk e).toInt < (rk e').toInt; omega)))
    omega
  rw [this, Bool.and_false]; rfl
theorem rk_skip {H : Nat → Bool} {rk num sco : Nat → Int32} {lim n hc pl : Nat} {hN hS hR : Nat → Int32} (I : rk_I H rk num sco lim n hc hN hS hR)
    (hH : H n = true) (hP : rk_P hR hc (rk n) pl) (hl : lim ≤ pl) : rk_I H rk num sco lim (n + 1) hc hN hS hR := by
  have I' := I
  obtain ⟨h1, h2⟩ := I
  have hle := hP.1
  refine ⟨?_, ?_⟩
  · show hc = min (sg_cn H n + (if H n = true then 1 else 0)) lim
    rw [hH]
    show hc = min (sg_cn H n + 1) lim
    omega
  · intro p hp
    obtain ⟨e, he, hr⟩ := rk_up I' hP (show p < pl by omega)
    exact ⟨e, by omega, hr⟩
def rk_sh (f : Nat → Int32) (pl hc : Nat) (x : Int32) : Nat → Int32 := fun p => if p = pl then x else if pl < p ∧ p < hc then f (p - 1) else f p
theorem rk_step {H : Nat → Bool} {rk num sco : Nat → Int32} {lim n hc pl : Nat} {hN hS hR : Nat → Int32} (I : rk_I H rk num sco lim n hc hN hS hR)
    (hH : H n = true) (hP : rk_P hR hc (rk n) pl) (hl : pl < lim) (hc' : Nat) (e' : hc' = if hc < lim then hc + 1 else hc) :
    rk_I H rk num sco lim (n + 1) hc' (rk_sh hN pl hc' (num n)) (rk_sh hS pl hc' (sco n)) (rk_sh hR pl hc' (rk n)) := by
  have I' := I
  obtain ⟨h1, h2⟩ := I
  have hP' := hP
  obtain ⟨hle, h0, hgt⟩ := hP
  refine ⟨?_, ?_⟩
  · show hc' = min (sg_cn H n + (if H n = true then 1 else 0)) lim
    rw [hH]
    show hc' = min (sg_cn H n + 1) lim
    rw [e']
    split <;> omega
  · intro p hp
    have hp2 : p < hc + 1 := by
      rw [e'] at hp
      split at hp <;> omega
    rcases Nat.lt_trichotomy p pl with h | h | h
    · obtain ⟨e, he, hHe, hb, hr⟩ := rk_up I' hP' h
      have f1 : ∀ (f : Nat → Int32) x, rk_sh f pl hc' x p = f p := by
        intro f x
        unfold rk_sh
        rw [if_neg (by omega), if_neg (by omega)]
      rw [f1, f1, f1]
      exact ⟨e, by omega, hHe, hb, hr⟩
    · subst h
      have f1 : ∀ (f : Nat → Int32) x, rk_sh f p hc' x p = x := by
        intro f x
        unfold rk_sh
        rw [if_pos rfl]
      rw [f1, f1, f1]
      refine ⟨n, by omega, hH, ?_, rfl, rfl, rfl⟩
      rw [rk_succ, rk_pr_ff.mpr (show ¬ ((rk n).toInt < (rk n).toInt ∨ ((rk n).toInt = (rk n).toInt ∧ n < n)) by omega), Bool.and_false]
      show rk_bf H (fun i => (rk i).toInt) n n + 0 = p
      have hA : p ≤ rk_bf H (fun i => (rk i).toInt) n n := by
        rcases Nat.eq_zero_or_pos p with hz | hz
        · omega
        · obtain ⟨e, he, hHe, hb, hr⟩ := h2 (p - 1) (by omega)
          have hx : rk n ≤ hR (p - 1) := by
            rcases h0 with h0 | h0
            · omega
            · exact h0
          rw [hr.2.2, Int32.le_iff_toInt_le] at hx
          have := rk_lt (H := H) (R := fun i => (rk i).toInt) (f := n) he hHe (rk_pr_iff.mpr (by show (rk n).toInt < (rk e).toInt ∨ ((rk e).toInt = (rk n).toInt ∧ e < n); omega))
          omega
      have hB : rk_bf H (fun i => (rk i).toInt) n n ≤ p := by
        rcases Nat.lt_or_ge p hc with hz | hz
        · obtain ⟨e, he, hHe, hb, hr⟩ := h2 p hz
          have hx := hgt p (Nat.le_refl _) hz
          rw [hr.2.2, Int32.le_iff_toInt_le] at hx
          rw [← hb]
          apply sg_cn_mono
          intro i hi hh
          have h7 := (Bool.and_eq_true_iff.mp hh)
          have h8 := rk_pr_iff.mp h7.2
          refine Bool.and_eq_true_iff.mpr ⟨h7.1, rk_pr_iff.mpr (Or.inl ?_)⟩
          show (rk e).toInt < (rk i).toInt
          have h9 : (rk n).toInt < (rk i).toInt ∨ ((rk i).toInt = (rk n).toInt ∧ i < n) := h8
          omega
        · have : rk_bf H (fun i => (rk i).toInt) n n ≤ sg_cn H n := by
            apply sg_cn_mono
            intro i hi hh
            exact (Bool.and_eq_true_iff.mp hh).1
          omega
      omega
    · obtain ⟨e, he, hHe, hb, hr⟩ := h2 (p - 1) (by omega)
      have hx := hgt (p - 1) (by omega) (by omega)
      rw [hr.2.2, Int32.le_iff_toInt_le] at hx
      have f1 : ∀ (f : Nat → Int32) x, rk_sh f pl hc' x p = f (p - 1) := by
        intro f x
        unfold rk_sh
        rw [if_neg (by omega), if_pos (by omega)]
      rw [f1, f1, f1]
      refine ⟨e, by omega, hHe, ?_, hr⟩
      rw [rk_succ, hH, rk_pr_iff.mpr (Or.inl (show (rk e).toInt < (rk n).toInt by omega)), hb]
      show p - 1 + 1 = p
      omega
