/-! binary digits -/
def sd_dg (v : Nat) : Nat := if h : v = 0 then 0 else sd_dg (v / 2) + 1
termination_by v
decreasing_by omega
theorem sd_dg_0 : sd_dg 0 = 0 := by rw [sd_dg]; rfl
theorem sd_dg_s {v : Nat} (h : 0 < v) : sd_dg v = sd_dg (v / 2) + 1 := by
  rw [sd_dg, dif_neg (by omega)]
theorem sd_dg_iff : ∀ d v, 0 < v / 2 ^ d ↔ d < sd_dg v
  | 0, v => by
    rw [Nat.pow_zero, Nat.div_one]
    rcases Nat.eq_zero_or_pos v with h | h
    · subst h; rw [sd_dg_0]
    · rw [sd_dg_s h]; omega
  | d + 1, v => by
    have e : v / 2 ^ (d + 1) = v / 2 / 2 ^ d := by
      rw [Nat.div_div_eq_div_mul, Nat.pow_succ, Nat.mul_comm]
    rw [e, sd_dg_iff d (v / 2)]
    rcases Nat.eq_zero_or_pos v with h | h
    · subst h
      simp only [Nat.zero_div, sd_dg_0]
      omega
    · rw [sd_dg_s h]; omega
theorem sd_dg_le {v d : Nat} (h : v < 2 ^ d) : sd_dg v ≤ d := by
  have h1 := sd_dg_iff d v
  rw [Nat.div_eq_of_lt h] at h1
  omega
/-! arrays that are moved -/
def sd_dr (a : Nat → Int32) (b m : Nat) : Nat → Int32 := fun j => if b ≤ j ∧ j < b + m then a (j + 1) else a j
theorem sd_dr_0 (a : Nat → Int32) (b : Nat) : sd_dr a b 0 = a := by
  funext j; unfold sd_dr; rw [if_neg (by omega)]
theorem sd_dr_s (a : Nat → Int32) (b m : Nat) : upd (sd_dr a b m) (b + m) (sd_dr a b m (b + m + 1)) = sd_dr a b (m + 1) := by
  funext j
  unfold upd
  by_cases h : j = b + m
  · subst h
    rw [if_pos rfl]
    unfold sd_dr
    rw [if_neg (by omega), if_pos (by omega)]
  · rw [if_neg h]
    unfold sd_dr
    by_cases h2 : b ≤ j ∧ j < b + m
    · rw [if_pos h2, if_pos (by omega)]
    · rw [if_neg h2, if_neg (by omega)]
def sd_cy (a : Nat → Int32) (b : Nat) (s : Nat → Int32) (c m : Nat) : Nat → Int32 := fun j => if b ≤ j ∧ j < b + m then s (c + (j - b)) else a j
theorem sd_cy_0 (a : Nat → Int32) (b : Nat) (s : Nat → Int32) (c : Nat) : sd_cy a b s c 0 = a := by
  funext j; unfold sd_cy; rw [if_neg (by omega)]
theorem sd_cy_s (a : Nat → Int32) (b : Nat) (s : Nat → Int32) (c m : Nat) : upd (sd_cy a b s c m) (b + m) (s (c + m)) = sd_cy a b s c (m + 1) := by
  funext j
  unfold upd
  by_cases h : j = b + m
  · subst h
    rw [if_pos rfl]
    unfold sd_cy
    rw [if_pos (by omega)]
    congr 1; omega
  · rw [if_neg h]
    unfold sd_cy
    by_cases h2 : b ≤ j ∧ j < b + m
    · rw [if_pos h2, if_pos (by omega)]
    · rw [if_neg h2, if_neg (by omega)]
theorem sd_cy_in {a : Nat → Int32} {b : Nat} {s : Nat → Int32} {c m i : Nat} (h : i < m) : sd_cy a b s c m (b + i) = s (c + i) := by
  unfold sd_cy; rw [if_pos (by omega)]; congr 1; omega
theorem sd_cy_out {a : Nat → Int32} {b : Nat} {s : Nat → Int32} {c m j : Nat} (h : j < b ∨ b + m ≤ j) : sd_cy a b s c m j = a j := by
  unfold sd_cy; rw [if_neg (by omega)]
/-- the text of slot f laid into slot t, in place -/
theorem sd_cy_mv (a : Nat → Int32) (f t i : Nat) (hi : i < 12) : sd_cy a (12 * t) a (12 * f) i (12 * f + i) = a (12 * f + i) := by
  unfold sd_cy
  by_cases h : 12 * t ≤ 12 * f + i ∧ 12 * f + i < 12 * t + i
  · rw [if_pos h]
    have : f = t := by omega
    subst this
    congr 1; omega
  · rw [if_neg h]
def sd_hs (T : Nat → Int32) (b : Nat) (w : Int32) : Nat → Bool
  | 0 => false
  | n + 1 => sd_hs T b w n || decide (T (b + n) = w)
theorem sd_hs_iff {T : Nat → Int32} {b : Nat} {w : Int32} : ∀ n, sd_hs T b w n = true ↔ ∃ i, i < n ∧ T (b + i) = w
  | 0 => ⟨fun h => absurd (show false = true from h) (by decide), fun ⟨i, h, _⟩ => absurd h (by omega)⟩
  | n + 1 => by
    show (sd_hs T b w n || decide (T (b + n) = w)) = true ↔ _
    rw [Bool.or_eq_true_iff, sd_hs_iff n, decide_eq_true_iff]
    constructor
    · rintro (⟨i, h1, h2⟩ | h)
      · exact ⟨i, by omega, h2⟩
      · exact ⟨n, by omega, h⟩
    · rintro ⟨i, h1, h2⟩
      rcases Nat.lt_or_ge i n with h3 | h3
      · exact Or.inl ⟨i, h3, h2⟩
      · have : i = n := by omega
        subst this
        exact Or.inr h2
/-! documents: number, price, length, text, segment, deleted -/
abbrev sd_D : Type := (Nat → Int32) × (Nat → Int32) × (Nat → Int32) × (Nat → Int32) × (Nat → Int32) × (Nat → Int32)
def sd_cp (D : sd_D) (f t : Nat) : sd_D :=
  (upd D.1 t (D.1 f), upd D.2.1 t (D.2.1 f), upd D.2.2.1 t (D.2.2.1 f), sd_cy D.2.2.2.1 (12 * t) D.2.2.2.1 (12 * f) 12, upd D.2.2.2.2.1 t (D.2.2.2.2.1 f), upd D.2.2.2.2.2 t (D.2.2.2.2.2 f))
def sd_js (fr : Int32) (d : Nat) (s : sd_D × Nat × Nat) : sd_D × Nat × Nat :=
  if fr ≤ s.1.2.2.2.2.1 d then
    (if s.1.2.2.2.2.2 d = 0 then
      (((sd_cp s.1 d s.2.1).1, (sd_cp s.1 d s.2.1).2.1, (sd_cp s.1 d s.2.1).2.2.1, (sd_cp s.1 d s.2.1).2.2.2.1, upd (sd_cp s.1 d s.2.1).2.2.2.2.1 s.2.1 fr, (sd_cp s.1 d s.2.1).2.2.2.2.2), s.2.1 + 1, s.2.2 + 1)
    else s)
  else (sd_cp s.1 d s.2.1, s.2.1 + 1, s.2.2)
def sd_jn (fr : Int32) (D : sd_D) : Nat → sd_D × Nat × Nat
  | 0 => (D, 0, 0)
  | d + 1 => sd_js fr d (sd_jn fr D d)
/-- what holds of every cell -/
def sd_ok (D : sd_D) : Prop :=
  (∀ j, ∃ n, n < 2 ^ 31 ∧ D.1 j = nI n) ∧ (∀ j, ∃ n, n < 100 ∧ D.2.1 j = nI n) ∧ (∀ j, ∃ n, n ≤ 12 ∧ D.2.2.1 j = nI n) ∧ (∀ j, D.2.2.2.2.2 j = 0 ∨ D.2.2.2.2.2 j = 1)
theorem sd_upd_all {Q : Int32 → Prop} {a : Nat → Int32} {t : Nat} {x : Int32} (h : ∀ j, Q (a j)) (hx : Q x) : ∀ j, Q (upd a t x j) := by
  intro j
  unfold upd
  split
  · exact hx
  · exact h j
theorem sd_ok_cp {D : sd_D} (h : sd_ok D) (f t : Nat) : sd_ok (sd_cp D f t) :=
  ⟨sd_upd_all (Q := fun x => ∃ n, n < 2 ^ 31 ∧ x = nI n) h.1 (h.1 f), sd_upd_all (Q := fun x => ∃ n, n < 100 ∧ x = nI n) h.2.1 (h.2.1 f),
   sd_upd_all (Q := fun x => ∃ n, n ≤ 12 ∧ x = nI n) h.2.2.1 (h.2.2.1 f), sd_upd_all (Q := fun x => x = 0 ∨ x = 1) h.2.2.2 (h.2.2.2 f)⟩
theorem sd_ok_js {s : sd_D × Nat × Nat} (h : sd_ok s.1) (fr : Int32) (d : Nat) : sd_ok (sd_js fr d s).1 := by
  unfold sd_js
  split
  · split
    · exact sd_ok_cp h d s.2.1
    · exact h
  · exact sd_ok_cp h d s.2.1
theorem sd_ok_jn {D : sd_D} (h : sd_ok D) (fr : Int32) : ∀ d, sd_ok (sd_jn fr D d).1
  | 0 => h
  | d + 1 => sd_ok_js (sd_ok_jn h fr d) fr d
/-- what the joining keeps: n places filled, `l` of them joined -/
def sd_J (S : Nat → Int32) (f d : Nat) (s : sd_D × Nat × Nat) : Prop :=
  s.2.1 ≤ d ∧ (∀ j, d ≤ j → s.1.2.2.2.2.1 j = S j) ∧ (∀ j, j < s.2.1 → ∃ c, c ≤ f ∧ s.1.2.2.2.2.1 j = nI c) ∧
  (∀ c, c ≤ f → sg_cn (fun j => decide (s.1.2.2.2.2.1 j < nI c)) s.2.1 = sg_cn (fun j => decide (S j < nI c)) d) ∧
  s.2.1 = sg_cn (fun j => decide (s.1.2.2.2.2.1 j < nI f)) s.2.1 + s.2.2
theorem sd_cn_upd {S : Nat → Int32} {n : Nat} {x : Int32} (P : Int32 → Bool) : sg_cn (fun j => P (upd S n x j)) (n + 1) = sg_cn (fun j => P (S j)) n + (if P x = true then 1 else 0) := by
  show sg_cn (fun j => P (upd S n x j)) n + (if P (upd S n x n) = true then 1 else 0) = _
  rw [pk_us, sg_cn_congr (q := fun j => P (S j)) n (fun i hi => by show P (upd S n x i) = P (S i); rw [pk_un (by omega)])]
theorem sd_J_s {S : Nat → Int32} {f d : Nat} {s : sd_D × Nat × Nat} (hf : f < 2 ^ 31) (hS : ∃ c, c < 2 ^ 31 ∧ S d = nI c) (h : sd_J S f d s) : sd_J S f (d + 1) (sd_js (nI f) d s) := by
  obtain ⟨h1, h2, h3, h4, h5⟩ := h
  obtain ⟨c, hc, ec⟩ := hS
  have ed : s.1.2.2.2.2.1 d = nI c := by rw [h2 d (Nat.le_refl _), ec]
  unfold sd_js
  rw [ed]
  by_cases hin : nI f ≤ nI c
  · rw [if_pos hin]
    have hfc : f ≤ c := (nI_leI hf hc).mp hin
    have hS0 : ∀ c', c' ≤ f → decide (S d < nI c') = false := by
      intro c' hc'
      rw [ec]
      exact decide_eq_false (fun z => by have := (nI_ltI hc (by omega)).mp z; omega)
    by_cases hd : s.1.2.2.2.2.2 d = 0
    · rw [if_pos hd]
      have eS : upd (sd_cp s.1 d s.2.1).2.2.2.2.1 s.2.1 (nI f) = upd s.1.2.2.2.2.1 s.2.1 (nI f) := by
        funext j
        show upd (upd s.1.2.2.2.2.1 s.2.1 _) s.2.1 (nI f) j = _
        unfold upd
        by_cases hj : j = s.2.1
        · rw [if_pos hj, if_pos hj]
        · rw [if_neg hj, if_neg hj, if_neg hj]
      rw [eS]
      refine ⟨by show s.2.1 + 1 ≤ d + 1; omega, ?_, ?_, ?_, ?_⟩
      · intro j hj
        show upd s.1.2.2.2.2.1 s.2.1 (nI f) j = S j
        rw [pk_un (by omega), h2 j (by omega)]
      · intro j hj
        show ∃ c, c ≤ f ∧ upd s.1.2.2.2.2.1 s.2.1 (nI f) j = nI c
        rcases Nat.lt_or_ge j s.2.1 with hj2 | hj2
        · rw [pk_un (by omega)]; exact h3 j hj2
        · have : j = s.2.1 := by have : j < s.2.1 + 1 := hj; omega
          subst this
          rw [pk_us]; exact ⟨f, Nat.le_refl _, rfl⟩
      · intro c' hc'
        show sg_cn (fun j => decide (upd s.1.2.2.2.2.1 s.2.1 (nI f) j < nI c')) (s.2.1 + 1) = sg_cn (fun j => decide (S j < nI c')) d + (if decide (S d < nI c') = true then 1 else 0)
        rw [sd_cn_upd (fun x => decide (x < nI c')), h4 c' hc', hS0 c' hc', decide_eq_false (fun z => by have := (nI_ltI hf (by omega)).mp z; omega)]
      · show s.2.1 + 1 = sg_cn (fun j => decide (upd s.1.2.2.2.2.1 s.2.1 (nI f) j < nI f)) (s.2.1 + 1) + (s.2.2 + 1)
        rw [sd_cn_upd (fun x => decide (x < nI f)), decide_eq_false (fun z => by have := (nI_ltI hf hf).mp z; omega)]
        show s.2.1 + 1 = _ + 0 + (s.2.2 + 1)
        omega
    · rw [if_neg hd]
      refine ⟨by omega, fun j hj => h2 j (by omega), h3, ?_, h5⟩
      intro c' hc'
      show _ = sg_cn (fun j => decide (S j < nI c')) d + (if decide (S d < nI c') = true then 1 else 0)
      rw [h4 c' hc', hS0 c' hc']; rfl
  · rw [if_neg hin]
    have hcf : c < f := by
      rcases Nat.lt_or_ge c f with h | h
      · exact h
      · exact absurd ((nI_leI hf hc).mpr h) hin
    refine ⟨by show s.2.1 + 1 ≤ d + 1; omega, ?_, ?_, ?_, ?_⟩
    · intro j hj
      show upd s.1.2.2.2.2.1 s.2.1 (s.1.2.2.2.2.1 d) j = S j
      rw [pk_un (by omega), h2 j (by omega)]
    · intro j hj
      show ∃ c, c ≤ f ∧ upd s.1.2.2.2.2.1 s.2.1 (s.1.2.2.2.2.1 d) j = nI c
      rcases Nat.lt_or_ge j s.2.1 with hj2 | hj2
      · rw [pk_un (by omega)]; exact h3 j hj2
      · have : j = s.2.1 := by have : j < s.2.1 + 1 := hj; omega
        subst this
        rw [pk_us]; exact ⟨c, by omega, ed⟩
    · intro c' hc'
      show sg_cn (fun j => decide (upd s.1.2.2.2.2.1 s.2.1 (s.1.2.2.2.2.1 d) j < nI c')) (s.2.1 + 1) = sg_cn (fun j => decide (S j < nI c')) d + (if decide (S d < nI c') = true then 1 else 0)
      rw [sd_cn_upd (fun x => decide (x < nI c')), h4 c' hc', ed, ec]
    · show s.2.1 + 1 = sg_cn (fun j => decide (upd s.1.2.2.2.2.1 s.2.1 (s.1.2.2.2.2.1 d) j < nI f)) (s.2.1 + 1) + s.2.2
      rw [sd_cn_upd (fun x => decide (x < nI f)), ed, decide_eq_true ((nI_ltI hc hf).mpr hcf)]
      show s.2.1 + 1 = _ + 1 + s.2.2
      omega
theorem sd_J_all {D : sd_D} {f : Nat} (hf : f < 2 ^ 31) : ∀ d, (∀ j, j < d → ∃ c, c < 2 ^ 31 ∧ D.2.2.2.2.1 j = nI c) → sd_J D.2.2.2.2.1 f d (sd_jn (nI f) D d)
  | 0, _ => ⟨Nat.le_refl _, fun _ _ => rfl, fun j h => absurd h (Nat.not_lt_zero j), fun _ _ => rfl, rfl⟩
  | d + 1, h => sd_J_s hf (h d (by omega)) (sd_J_all hf d (fun j hj => h j (by omega)))
/-- the row of documents: st of them stored, the rest in the buffer -/
def sd_I (S : Nat → Int32) (st dc sg : Nat) : Prop :=
  st ≤ dc ∧ dc ≤ 32 ∧ (∀ d, d < st → ∃ c, c < sg ∧ S d = nI c) ∧ (∀ d, st ≤ d → d < dc → S d = -1) ∧ (∀ c, c ≤ sg → c ≤ sg_cn (fun j => decide (S j < nI c)) st)
theorem sd_I_sg {S : Nat → Int32} {st dc sg : Nat} (h : sd_I S st dc sg) : sg ≤ st := Nat.le_trans (h.2.2.2.2 sg (Nat.le_refl _)) (sg_cn_le _ _)
theorem sd_I_join {D : sd_D} {dc sg f : Nat} (h : sd_I D.2.2.2.2.1 dc dc sg) (hf : f ≤ sg) :
    sd_I (sd_jn (nI f) D dc).1.2.2.2.2.1 (sd_jn (nI f) D dc).2.1 (sd_jn (nI f) D dc).2.1 (if 0 < (sd_jn (nI f) D dc).2.2 then f + 1 else f) ∧ (sd_jn (nI f) D dc).2.1 ≤ dc := by
  have hsg := sd_I_sg h
  obtain ⟨h1, h2, h3, h4, h5⟩ := h
  obtain ⟨g1, g2, g3, g4, g5⟩ := sd_J_all (D := D) (f := f) (by omega) dc (fun j hj => by
    obtain ⟨c, hc, e⟩ := h3 j hj
    exact ⟨c, by omega, e⟩)
  generalize sd_jn (nI f) D dc = s at g1 g2 g3 g4 g5
  refine ⟨⟨Nat.le_refl _, by omega, ?_, fun d a b => absurd b (by omega), ?_⟩, g1⟩
  · intro d hd
    obtain ⟨c, hc, e⟩ := g3 d hd
    by_cases hl : 0 < s.2.2
    · rw [if_pos hl]; exact ⟨c, by omega, e⟩
    · rw [if_neg hl]
      refine ⟨c, ?_, e⟩
      have g6 : sg_cn (fun j => decide (s.1.2.2.2.2.1 j < nI f)) s.2.1 = s.2.1 := by omega
      rcases Nat.lt_or_ge c f with h7 | h7
      · exact h7
      · have h8 : sg_cn (fun j => decide (s.1.2.2.2.2.1 j < nI f)) s.2.1 < sg_cn (fun _ => true) s.2.1 :=
          sg_cn_lt s.2.1 d (fun _ _ _ => rfl) hd rfl (by show decide (s.1.2.2.2.2.1 d < nI f) = false; rw [e]; exact decide_eq_false (fun z => by have := (nI_ltI (by omega) (by omega)).mp z; omega))
        have h9 := sg_cn_le (fun _ => true) s.2.1
        omega
  · intro c hc
    by_cases hl : 0 < s.2.2
    · rw [if_pos hl] at hc
      rcases Nat.lt_or_ge f c with h7 | h7
      · have e : c = f + 1 := by omega
        subst e
        have g7 : sg_cn (fun j => decide (s.1.2.2.2.2.1 j < nI (f + 1))) s.2.1 = s.2.1 := sg_cn_all _ (fun i hi => by
          obtain ⟨c, hc, e⟩ := g3 i hi
          show decide (s.1.2.2.2.2.1 i < nI (f + 1)) = true
          rw [e]
          exact decide_eq_true ((nI_ltI (by omega) (by omega)).mpr (by omega)))
        have g8 := g4 f (Nat.le_refl _)
        have g9 := h5 f hf
        omega
      · rw [g4 c h7]; exact h5 c (by omega)
    · rw [if_neg hl] at hc
      rw [g4 c hc]; exact h5 c (by omega)
