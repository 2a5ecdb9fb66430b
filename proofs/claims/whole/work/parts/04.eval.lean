/-! the value of a query on one document: (is a span list, the spans, weight, matches, score) -/
abbrev sv_T : Type := Bool × (Nat → Int32) × Nat × Bool × Nat
def sv_bn (x : Int32) (l : Nat) : Nat := if bt x l = true then 1 else 0
def sv_ct (s : Nat → Int32) : Nat := sg_sm (fun i => sg_sm (fun l => sv_bn (s i) l) 12) 12
def sv_sc (own w n : Nat) : Nat := if n = 0 then 0 else w * 220 * n / (100 * n + 30 + own)
def sv_mt (v : sv_T) : Bool := if v.1 = true then decide (0 < sv_ct v.2.1) else v.2.2.2.1
def sv_ss (own : Nat) (v : sv_T) : Nat := if v.1 = true then sv_sc own v.2.2.1 (sv_ct v.2.1) else v.2.2.2.2
def sv_or (b : Nat → Int32) (j : Nat) (acc : Int32) : Nat → Int32
  | 0 => acc
  | m + 1 => sv_or b j acc m ||| b (j + 1 + m)
def sv_ch (far : Nat) (x : Int32) (b : Nat → Int32) : Nat → Int32
  | 0 => 0
  | j + 1 => if bt x j = true then sv_or b j (sv_ch far x b j) (min far (11 - j)) else sv_ch far x b j
def sv_wd (T : Nat → Int32) (len t : Nat) : Nat → Int32 := fun i => if i < len ∧ T i = nI t then (1 : Int32) <<< (nI i &&& 31) else 0
def sv_cm (t : Nat) (x y : Bool) : Bool := if t = 8 then x && y else if t = 9 then x || y else x && !y
def sv_j (own t : Nat) (a b : sv_T) : sv_T :=
  if 11 ≤ t then (true, fun i => sv_ch (if t = 11 then 1 else 3) (a.2.1 i) b.2.1 12, b.2.2.1 + a.2.2.1, false, 0)
  else (false, fun _ => 0, 0, sv_cm t (sv_mt a) (sv_mt b), if t = 10 then sv_ss own a else sv_ss own a + sv_ss own b)
def sv_st (W : Nat → Nat) (own : Nat) (T : Nat → Int32) (len pr t : Nat) (st : List sv_T) : List sv_T :=
  if t < 8 then (true, sv_wd T len t, W t, false, 0) :: st
  else if 1000 ≤ t then (false, fun _ => 0, 0, decide ((t - 1000) / 100 ≤ pr ∧ pr ≤ (t - 1000) % 100), 0) :: st
  else match st with
    | a :: b :: r => sv_j own t a b :: r
    | _ => st
def sv_ev (W : Nat → Nat) (own : Nat) (T : Nat → Int32) (len pr : Nat) : List Nat → List sv_T
  | [] => []
  | t :: l => sv_st W own T len pr t (sv_ev W own T len pr l)
def sv_tk (t : Nat) : Prop := t < 13 ∨ (1000 ≤ t ∧ t < 11000)
def sv_tks (l : List Nat) : Prop := ∀ t, t ∈ l → sv_tk t
theorem sv_bn_le (x : Int32) (l : Nat) : sv_bn x l ≤ 1 := by unfold sv_bn; split <;> omega
theorem sv_ct_le (s : Nat → Int32) : sv_ct s ≤ 144 := by
  have := sg_sm_le (f := fun i => sg_sm (fun l => sv_bn (s i) l) 12) 12 12 (fun i _ => by
    have := sg_sm_le (f := fun l => sv_bn (s i) l) 1 12 (fun l _ => sv_bn_le _ _)
    simpa using this)
  exact this
theorem sv_ct_0 {s : Nat → Int32} (h : ∀ i, i < 12 → s i = 0) : sv_ct s = 0 := by
  apply sg_sm_0
  intro i hi
  apply sg_sm_0
  intro l _
  unfold sv_bn
  rw [h i hi, b_0]; rfl
theorem sv_sc_le (own w n : Nat) : sv_sc own w n ≤ 3 * w := by
  unfold sv_sc
  split
  · omega
  · rename_i h
    apply Nat.le_of_lt_succ
    apply Nat.div_lt_of_lt_mul
    have h1 : w * 220 * n = 220 * (w * n) := by grind
    have h2 : (100 * n + 30 + own) * (3 * w).succ = 300 * (w * n) + 100 * n + (30 + own) * (3 * w + 1) := by
      show (100 * n + 30 + own) * (3 * w + 1) = _
      grind
    rw [h1, h2]
    have : 0 < n := by omega
    omega
/-! kinds -/
theorem sv_kinds {W : Nat → Nat} {own : Nat} {T : Nat → Int32} {len pr : Nat} : ∀ {l : List Nat} {ks : List Bool}, sv_tks l → sq_b l = some ks → (sv_ev W own T len pr l).map Prod.fst = ks := by
  intro l
  induction l with
  | nil =>
    intro ks _ h
    exact Option.some.inj h
  | cons t l ih =>
    intro ks ht h
    obtain ⟨st0, h0⟩ := sq_b_tail h
    have h1 : sq_bs t (sq_b l) = some ks := h
    have h2 := ih (fun x hx => ht x (List.mem_cons_of_mem _ hx)) h0
    have h3 := ht t List.mem_cons_self
    rw [h0] at h1
    show (sv_st W own T len pr t (sv_ev W own T len pr l)).map Prod.fst = ks
    generalize hE : sv_ev W own T len pr l = E at h2
    unfold sq_bs at h1
    simp only at h1
    unfold sv_st
    by_cases hw : t < 8
    · rw [if_neg (by omega)] at h1
      rw [if_pos hw, List.map_cons, h2, ← Option.some.inj h1, decide_eq_true hw]
    · by_cases hr : 1000 ≤ t
      · rw [if_neg (by omega)] at h1
        rw [if_neg hw, if_pos hr, List.map_cons, h2, ← Option.some.inj h1, decide_eq_false hw]
      · have hj : 8 ≤ t ∧ t ≤ 12 := by unfold sv_tk at h3; omega
        rw [if_pos hj] at h1
        rw [if_neg hw, if_neg hr]
        match st0, E, h2, h1 with
        | a :: b :: r, x :: y :: z, h2, h1 =>
          simp only [List.map_cons, List.cons.injEq] at h2
          have h6 : (if (t = 11 ∨ t = 12) ∧ ¬ (a = true ∧ b = true) then none else some (decide (t = 11 ∨ t = 12) :: r)) = some ks := h1
          split at h6
          · exact absurd h6 (by simp)
          · rw [← Option.some.inj h6]
            show (sv_j own t x y).1 :: z.map Prod.fst = _
            rw [h2.2.2]
            congr 1
            unfold sv_j
            by_cases h11 : 11 ≤ t
            · rw [if_pos h11]
              exact (decide_eq_true (by omega)).symm
            · rw [if_neg h11]
              exact (decide_eq_false (by omega)).symm
        | a :: b :: r, [], h2, _ => exact absurd h2 (by simp)
        | a :: b :: r, [x], h2, _ => exact absurd h2 (by simp)
        | [a], _, _, h1 => exact absurd h1 (by simp)
        | [], _, _, h1 => exact absurd h1 (by simp)
/-! spans are late and short; what a stack weighs -/
def sv_so (len : Nat) (s : Nat → Int32) : Prop := ∀ i, i < 12 → (∀ j, j < i → bt (s i) j = false) ∧ (len ≤ i → s i = 0)
def sv_sos (len : Nat) : List sv_T → Prop
  | [] => True
  | v :: r => sv_so len v.2.1 ∧ sv_sos len r
def sv_pt : List sv_T → Nat
  | [] => 0
  | v :: r => (3 * v.2.2.1 + v.2.2.2.2) + sv_pt r
theorem sv_or_bt {b : Nat → Int32} {j x : Nat} {acc : Int32} (ha : bt acc x = false) : ∀ m, (∀ k, j < k → k ≤ j + m → bt (b k) x = false) → bt (sv_or b j acc m) x = false
  | 0, _ => ha
  | m + 1, h => by
    show bt (sv_or b j acc m ||| b (j + 1 + m)) x = false
    rw [b_or, sv_or_bt ha m (fun k h1 h2 => h k h1 (by omega)), h (j + 1 + m) (by omega) (by omega)]; rfl
theorem sv_ch_low {far : Nat} {x : Int32} {b : Nat → Int32} : ∀ i, (∀ j, j < i → bt x j = false) → sv_ch far x b i = 0
  | 0, _ => rfl
  | i + 1, h => by
    show (if bt x i = true then sv_or b i (sv_ch far x b i) (min far (11 - i)) else sv_ch far x b i) = 0
    rw [if_neg (by rw [h i (by omega)]; decide), sv_ch_low i (fun j hj => h j (by omega))]
theorem sv_ch_bt {far i : Nat} {x : Int32} {b : Nat → Int32} (hx : ∀ j, j < i → bt x j = false) (hb : ∀ k, k < 12 → ∀ j, j < k → bt (b k) j = false) :
    ∀ m, m ≤ 12 → ∀ z, z < i → bt (sv_ch far x b m) z = false
  | 0, _, z, _ => b_0 z
  | m + 1, hm, z, hz => by
    show bt (if bt x m = true then sv_or b m (sv_ch far x b m) (min far (11 - m)) else sv_ch far x b m) z = false
    have ih := sv_ch_bt (far := far) hx hb m (by omega) z hz
    split
    · rename_i hbt
      apply sv_or_bt ih
      intro k h1 h2
      have hmi : i ≤ m := by
        rcases Nat.lt_or_ge m i with h3 | h3
        · rw [hx m h3] at hbt; exact absurd hbt (by decide)
        · exact h3
      exact hb k (by omega) z (by omega)
    · exact ih
theorem sv_ch_zero {far : Nat} {b : Nat → Int32} (m : Nat) : sv_ch far 0 b m = 0 := sv_ch_low m (fun j _ => b_0 j)
theorem sv_one_bt : ∀ i, i < 12 → ∀ j, j < i → bt ((1 : Int32) <<< (nI i &&& 31)) j = false := by
  intro i hi j hj
  rw [b_shl i (by omega) 1 (by omega), decide_eq_false (by omega), Bool.false_and]
theorem sv_wd_so (T : Nat → Int32) (len t : Nat) : sv_so len (sv_wd T len t) := by
  intro i hi
  unfold sv_wd
  constructor
  · intro j hj
    split
    · exact sv_one_bt i hi j hj
    · exact b_0 j
  · intro h
    rw [if_neg (by omega)]
theorem sv_z_so (len : Nat) : sv_so len (fun _ => 0) := fun _ _ => ⟨fun j _ => b_0 j, fun _ => rfl⟩
theorem sv_j_so {own t len : Nat} {a b : sv_T} (ha : sv_so len a.2.1) (hb : sv_so len b.2.1) : sv_so len (sv_j own t a b).2.1 := by
  unfold sv_j
  split
  · intro i hi
    show (∀ j, j < i → bt (sv_ch (if t = 11 then 1 else 3) (a.2.1 i) b.2.1 12) j = false) ∧ (len ≤ i → sv_ch (if t = 11 then 1 else 3) (a.2.1 i) b.2.1 12 = 0)
    constructor
    · intro j hj
      exact sv_ch_bt (ha i hi).1 (fun k hk => (hb k hk).1) 12 (by omega) j hj
    · intro h
      rw [(ha i hi).2 h, sv_ch_zero]
  · exact sv_z_so len
theorem sv_ev_so {W : Nat → Nat} {own : Nat} {T : Nat → Int32} {len pr : Nat} : ∀ l, sv_sos len (sv_ev W own T len pr l) := by
  intro l
  induction l with
  | nil => exact trivial
  | cons t l ih =>
    show sv_sos len (sv_st W own T len pr t (sv_ev W own T len pr l))
    generalize sv_ev W own T len pr l = E at ih
    unfold sv_st
    by_cases hw : t < 8
    · rw [if_pos hw]; exact ⟨sv_wd_so _ _ _, ih⟩
    · rw [if_neg hw]
      by_cases hr : 1000 ≤ t
      · rw [if_pos hr]; exact ⟨sv_z_so _, ih⟩
      · rw [if_neg hr]
        match E, ih with
        | a :: b :: r, ih => exact ⟨sv_j_so ih.1 ih.2.1, ih.2.2⟩
        | [a], ih => exact ih
        | [], ih => exact ih
theorem sv_ss_le (own : Nat) (v : sv_T) : sv_ss own v ≤ 3 * v.2.2.1 + v.2.2.2.2 := by
  unfold sv_ss
  split
  · exact Nat.le_trans (sv_sc_le _ _ _) (Nat.le_add_right _ _)
  · exact Nat.le_add_left _ _
theorem sv_ev_pt {W : Nat → Nat} {own : Nat} {T : Nat → Int32} {len pr : Nat} (hW : ∀ t, t < 8 → W t ≤ 9) : ∀ l, sv_pt (sv_ev W own T len pr l) ≤ 27 * l.length := by
  intro l
  induction l with
  | nil => exact Nat.le_refl _
  | cons t l ih =>
    show sv_pt (sv_st W own T len pr t (sv_ev W own T len pr l)) ≤ _
    generalize sv_ev W own T len pr l = E at ih
    rw [List.length_cons]
    unfold sv_st
    by_cases hw : t < 8
    · rw [if_pos hw]
      have := hW t hw
      show 3 * W t + 0 + sv_pt E ≤ _
      omega
    · rw [if_neg hw]
      by_cases hr : 1000 ≤ t
      · rw [if_pos hr]
        show 3 * 0 + 0 + sv_pt E ≤ _
        omega
      · rw [if_neg hr]
        match E, ih with
        | a :: b :: r, ih =>
          show 3 * (sv_j own t a b).2.2.1 + (sv_j own t a b).2.2.2.2 + sv_pt r ≤ _
          have h1 : sv_pt (a :: b :: r) = 3 * a.2.2.1 + a.2.2.2.2 + (3 * b.2.2.1 + b.2.2.2.2 + sv_pt r) := rfl
          have h2 := sv_ss_le own a
          have h3 := sv_ss_le own b
          unfold sv_j
          by_cases h11 : 11 ≤ t
          · rw [if_pos h11]
            show 3 * (b.2.2.1 + a.2.2.1) + 0 + sv_pt r ≤ _
            omega
          · rw [if_neg h11]
            show 3 * 0 + (if t = 10 then sv_ss own a else sv_ss own a + sv_ss own b) + sv_pt r ≤ _
            split <;> omega
        | [a], ih => show sv_pt [a] ≤ _; omega
        | [], ih => show sv_pt [] ≤ _; omega
theorem sv_pt_mem {v : sv_T} : ∀ {st : List sv_T}, v ∈ st → 3 * v.2.2.1 + v.2.2.2.2 ≤ sv_pt st := by
  intro st
  induction st with
  | nil => intro h; exact absurd h (by simp)
  | cons x r ih =>
    intro h
    show _ ≤ 3 * x.2.2.1 + x.2.2.2.2 + sv_pt r
    rcases List.mem_cons.mp h with h | h
    · subst h; omega
    · have := ih h; omega
/-! what matches does not hang on weights -/
def sv_e2 : List sv_T → List sv_T → Prop
  | [], [] => True
  | a :: x, b :: y => (a.1 = b.1 ∧ a.2.1 = b.2.1 ∧ sv_mt a = sv_mt b) ∧ sv_e2 x y
  | _, _ => False
theorem sv_ev_e2 {W V : Nat → Nat} {own own' : Nat} {T : Nat → Int32} {len pr : Nat} : ∀ l, sv_e2 (sv_ev W own T len pr l) (sv_ev V own' T len pr l) := by
  intro l
  induction l with
  | nil => exact trivial
  | cons t l ih =>
    show sv_e2 (sv_st W own T len pr t (sv_ev W own T len pr l)) (sv_st V own' T len pr t (sv_ev V own' T len pr l))
    generalize sv_ev W own T len pr l = E at ih
    generalize sv_ev V own' T len pr l = F at ih
    unfold sv_st
    by_cases hw : t < 8
    · rw [if_pos hw, if_pos hw]; exact ⟨⟨rfl, rfl, rfl⟩, ih⟩
    · rw [if_neg hw, if_neg hw]
      by_cases hr : 1000 ≤ t
      · rw [if_pos hr, if_pos hr]; exact ⟨⟨rfl, rfl, rfl⟩, ih⟩
      · rw [if_neg hr, if_neg hr]
        match E, F, ih with
        | a :: b :: r, c :: d :: s, ih =>
          obtain ⟨⟨h1, h2, h3⟩, ⟨h4, h5, h6⟩, h7⟩ := ih
          refine ⟨?_, h7⟩
          unfold sv_j
          by_cases h11 : 11 ≤ t
          · rw [if_pos h11, if_pos h11, h2, h5]
            exact ⟨rfl, rfl, rfl⟩
          · rw [if_neg h11, if_neg h11, h3, h6]
            exact ⟨rfl, rfl, rfl⟩
        | [a], [c], ih => exact ih
        | [], [], ih => exact ih
        | a :: b :: r, [c], ih => exact absurd ih.2 (by simp [sv_e2])
        | [a], c :: d :: s, ih => exact absurd ih.2 (by simp [sv_e2])
        | [], _ :: _, ih => exact absurd ih (by simp [sv_e2])
        | _ :: _, [], ih => exact absurd ih (by simp [sv_e2])
/-! the two queries of like -/
def sv_lx (ws : List Nat) : List Nat := List.replicate (ws.length - 1) 9 ++ ws
def sv_ly : List Nat → List Nat
  | [] => []
  | [w] => [w]
  | w :: v :: ws => 9 :: w :: sv_ly (v :: ws)
def sv_wv (W : Nat → Nat) (T : Nat → Int32) (len t : Nat) : sv_T := (true, sv_wd T len t, W t, false, 0)
def sv_am (W : Nat → Nat) (T : Nat → Int32) (len : Nat) : List Nat → Bool
  | [] => false
  | w :: ws => sv_mt (sv_wv W T len w) || sv_am W T len ws
def sv_as (W : Nat → Nat) (own : Nat) (T : Nat → Int32) (len : Nat) : List Nat → Nat
  | [] => 0
  | w :: ws => sv_ss own (sv_wv W T len w) + sv_as W own T len ws
theorem sv_ly_ev {W : Nat → Nat} {own : Nat} {T : Nat → Int32} {len pr : Nat} : ∀ (ws : List Nat), ws ≠ [] → (∀ w, w ∈ ws → w < 8) →
    ∃ v, sv_ev W own T len pr (sv_ly ws) = [v] ∧ sv_mt v = sv_am W T len ws ∧ sv_ss own v = sv_as W own T len ws
  | [], h, _ => absurd rfl h
  | [w], _, h => by
    refine ⟨sv_wv W T len w, ?_, ?_, ?_⟩
    · show sv_st W own T len pr w [] = _
      unfold sv_st
      rw [if_pos (h w List.mem_cons_self)]; rfl
    · show _ = (sv_mt (sv_wv W T len w) || false)
      rw [Bool.or_false]
    · show _ = sv_ss own (sv_wv W T len w) + 0
      rfl
  | w :: x :: ws, _, h => by
    obtain ⟨v, h1, h2, h3⟩ := sv_ly_ev (W := W) (own := own) (T := T) (len := len) (pr := pr) (x :: ws) (by simp) (fun y hy => h y (List.mem_cons_of_mem _ hy))
    refine ⟨sv_j own 9 (sv_wv W T len w) v, ?_, ?_, ?_⟩
    · show sv_st W own T len pr 9 (sv_st W own T len pr w (sv_ev W own T len pr (sv_ly (x :: ws)))) = _
      rw [h1]
      have : sv_st W own T len pr w [v] = sv_wv W T len w :: [v] := by
        unfold sv_st
        rw [if_pos (h w List.mem_cons_self)]; rfl
      rw [this]; rfl
    · show (sv_mt (sv_wv W T len w) || sv_mt v) = _
      rw [h2]; rfl
    · show sv_ss own (sv_wv W T len w) + sv_ss own v = _
      rw [h3]; rfl
theorem sv_rep_ev {W : Nat → Nat} {own : Nat} {T : Nat → Int32} {len pr : Nat} (l : List Nat) : ∀ m, sv_ev W own T len pr (List.replicate m 9 ++ l) = Nat.repeat (sv_st W own T len pr 9) m (sv_ev W own T len pr l)
  | 0 => rfl
  | m + 1 => by
    show sv_st W own T len pr 9 (sv_ev W own T len pr (List.replicate m 9 ++ l)) = _
    rw [sv_rep_ev l m]; rfl
theorem sv_rep_sh {W : Nat → Nat} {own : Nat} {T : Nat → Int32} {len pr : Nat} : ∀ m st, Nat.repeat (sv_st W own T len pr 9) (m + 1) st = Nat.repeat (sv_st W own T len pr 9) m (sv_st W own T len pr 9 st)
  | 0, _ => rfl
  | m + 1, st => by
    show sv_st W own T len pr 9 (Nat.repeat (sv_st W own T len pr 9) (m + 1) st) = _
    rw [sv_rep_sh m st]; rfl
theorem sv_ws_ev {W : Nat → Nat} {own : Nat} {T : Nat → Int32} {len pr : Nat} : ∀ (ws : List Nat), (∀ w, w ∈ ws → w < 8) → sv_ev W own T len pr ws = ws.map (sv_wv W T len)
  | [], _ => rfl
  | w :: ws, h => by
    show sv_st W own T len pr w (sv_ev W own T len pr ws) = _
    rw [sv_ws_ev ws (fun y hy => h y (List.mem_cons_of_mem _ hy))]
    unfold sv_st
    rw [if_pos (h w List.mem_cons_self)]; rfl
theorem sv_fold {W : Nat → Nat} {own : Nat} {T : Nat → Int32} {len pr : Nat} : ∀ (ws : List Nat) (v : sv_T),
    ∃ r, Nat.repeat (sv_st W own T len pr 9) ws.length (v :: ws.map (sv_wv W T len)) = [r] ∧ sv_mt r = (sv_mt v || sv_am W T len ws) ∧ sv_ss own r = sv_ss own v + sv_as W own T len ws
  | [], v => ⟨v, rfl, by show _ = (sv_mt v || false); rw [Bool.or_false], rfl⟩
  | w :: ws, v => by
    obtain ⟨r, h1, h2, h3⟩ := sv_fold (W := W) (own := own) (T := T) (len := len) (pr := pr) ws (sv_j own 9 v (sv_wv W T len w))
    refine ⟨r, ?_, ?_, ?_⟩
    · rw [List.length_cons, sv_rep_sh]
      exact h1
    · rw [h2]
      show ((sv_mt v || sv_mt (sv_wv W T len w)) || _) = (sv_mt v || (sv_mt (sv_wv W T len w) || _))
      rw [Bool.or_assoc]
    · rw [h3]
      show (sv_ss own v + sv_ss own (sv_wv W T len w)) + _ = sv_ss own v + (sv_ss own (sv_wv W T len w) + _)
      rw [Nat.add_assoc]
theorem sv_lx_ev {W : Nat → Nat} {own : Nat} {T : Nat → Int32} {len pr : Nat} (ws : List Nat) (h0 : ws ≠ []) (h : ∀ w, w ∈ ws → w < 8) :
    ∃ v, sv_ev W own T len pr (sv_lx ws) = [v] ∧ sv_mt v = sv_am W T len ws ∧ sv_ss own v = sv_as W own T len ws := by
  cases ws with
  | nil => exact absurd rfl h0
  | cons w ws =>
    obtain ⟨r, h1, h2, h3⟩ := sv_fold (W := W) (own := own) (T := T) (len := len) (pr := pr) ws (sv_wv W T len w)
    refine ⟨r, ?_, h2, h3⟩
    unfold sv_lx
    rw [sv_rep_ev, sv_ws_ev _ h]
    exact h1
/-! both are expressions -/
theorem sv_ws_b : ∀ (ws : List Nat), (∀ w, w ∈ ws → w < 8) → sq_b ws = some (List.replicate ws.length true)
  | [], _ => rfl
  | w :: ws, h => by
    show sq_bs w (sq_b ws) = _
    rw [sv_ws_b ws (fun y hy => h y (List.mem_cons_of_mem _ hy))]
    have hw := h w List.mem_cons_self
    unfold sq_bs
    simp only
    rw [if_neg (by omega), decide_eq_true hw]; rfl
theorem sv_9_b (a b : Bool) (r : List Bool) : sq_bs 9 (some (a :: b :: r)) = some (false :: r) := rfl
theorem sv_lx_b (ws : List Nat) (h0 : ws ≠ []) (h : ∀ w, w ∈ ws → w < 8) : ∃ v, sq_b (sv_lx ws) = some [v] := by
  cases ws with
  | nil => exact absurd rfl h0
  | cons w ws =>
    have key : ∀ (m k : Nat), m ≤ k → ∃ v, sq_b (List.replicate m 9 ++ (w :: ws)) = sq_b (List.replicate m 9 ++ (w :: ws)) ∧ (ws.length = k → sq_b (List.replicate m 9 ++ (w :: ws)) = some (v :: List.replicate (k - m) true)) := by
      intro m
      induction m with
      | zero =>
        intro k _
        refine ⟨true, rfl, ?_⟩
        intro hk
        show sq_b (w :: ws) = _
        rw [sv_ws_b _ h, List.length_cons, hk]; rfl
      | succ m ih =>
        intro k hm
        obtain ⟨v, _, hv⟩ := ih k (by omega)
        refine ⟨false, rfl, ?_⟩
        intro hk
        show sq_bs 9 (sq_b (List.replicate m 9 ++ (w :: ws))) = _
        rw [hv hk]
        have e : k - m = (k - (m + 1)) + 1 := by omega
        rw [e, List.replicate_succ]
        exact sv_9_b _ _ _
    obtain ⟨v, _, hv⟩ := key ws.length ws.length (Nat.le_refl _)
    refine ⟨v, ?_⟩
    have := hv rfl
    rw [Nat.sub_self] at this
    exact this
theorem sv_ly_b : ∀ (ws : List Nat), ws ≠ [] → (∀ w, w ∈ ws → w < 8) → ∃ v, sq_b (sv_ly ws) = some [v]
  | [], h, _ => absurd rfl h
  | [w], _, h => by
    refine ⟨true, ?_⟩
    exact sv_ws_b [w] h
  | w :: x :: ws, _, h => by
    obtain ⟨v, h1⟩ := sv_ly_b (x :: ws) (by simp) (fun y hy => h y (List.mem_cons_of_mem _ hy))
    refine ⟨false, ?_⟩
    show sq_bs 9 (sq_bs w (sq_b (sv_ly (x :: ws)))) = _
    rw [h1]
    have hw := h w List.mem_cons_self
    have : sq_bs w (some [v]) = some [true, v] := by
      unfold sq_bs
      simp only
      rw [if_neg (by omega), decide_eq_true hw]
    rw [this]
    exact sv_9_b _ _ _
theorem sv_ly_tk : ∀ (ws : List Nat), (∀ w, w ∈ ws → w < 8) → sv_tks (sv_ly ws)
  | [], _ => fun t ht => absurd ht (by simp [sv_ly])
  | [w], h => fun t ht => Or.inl (by have := h t ht; omega)
  | w :: x :: ws, h => by
    intro t ht
    have ht' : t ∈ 9 :: w :: sv_ly (x :: ws) := ht
    rcases List.mem_cons.mp ht' with h1 | h1
    · exact Or.inl (by omega)
    · rcases List.mem_cons.mp h1 with h2 | h2
      · have := h w List.mem_cons_self
        exact Or.inl (by omega)
      · exact sv_ly_tk (x :: ws) (fun y hy => h y (List.mem_cons_of_mem _ hy)) t h2
theorem sv_lx_tk (ws : List Nat) (h : ∀ w, w ∈ ws → w < 8) : sv_tks (sv_lx ws) := by
  intro t ht
  rcases List.mem_append.mp ht with h1 | h1
  · have := List.eq_of_mem_replicate h1
    exact Or.inl (by omega)
  · have := h t h1
    exact Or.inl (by omega)
theorem sv_ly_len : ∀ (ws : List Nat), ws ≠ [] → (sv_ly ws).length + 1 = 2 * ws.length
  | [], h => absurd rfl h
  | [w], _ => rfl
  | w :: x :: ws, _ => by
    have := sv_ly_len (x :: ws) (by simp)
    show (sv_ly (x :: ws)).length + 1 + 1 + 1 = 2 * ((x :: ws).length + 1)
    omega
theorem sv_lx_len (ws : List Nat) (h : ws ≠ []) : (sv_lx ws).length + 1 = 2 * ws.length := by
  unfold sv_lx
  rw [List.length_append, List.length_replicate]
  have : 0 < ws.length := List.length_pos_iff.mpr h
  omega
