/-! sums and counts -/
def sg_sm (f : Nat → Nat) : Nat → Nat
  | 0 => 0
  | n + 1 => sg_sm f n + f n
def sg_cn (p : Nat → Bool) : Nat → Nat
  | 0 => 0
  | n + 1 => sg_cn p n + (if p n = true then 1 else 0)
def sg_B (b : Bool) : Int32 := if b = true then 1 else 0
theorem sg_sm_congr {f g : Nat → Nat} : ∀ n, (∀ i, i < n → f i = g i) → sg_sm f n = sg_sm g n
  | 0, _ => rfl
  | n + 1, h => by
    show sg_sm f n + f n = sg_sm g n + g n
    rw [sg_sm_congr n (fun i hi => h i (by omega)), h n (by omega)]
theorem sg_sm_le {f : Nat → Nat} (b : Nat) : ∀ n, (∀ i, i < n → f i ≤ b) → sg_sm f n ≤ b * n
  | 0, _ => Nat.zero_le _
  | n + 1, h => by
    have h1 := sg_sm_le b n (fun i hi => h i (by omega))
    have h2 := h n (by omega)
    show sg_sm f n + f n ≤ b * (n + 1)
    rw [Nat.mul_add]; omega
theorem sg_sm_ge {f : Nat → Nat} : ∀ n i, i < n → f i ≤ sg_sm f n
  | 0, i, h => absurd h (by omega)
  | n + 1, i, h => by
    show f i ≤ sg_sm f n + f n
    rcases Nat.lt_or_ge i n with h1 | h1
    · have := sg_sm_ge (f := f) n i h1; omega
    · have : i = n := by omega
      subst this; omega
theorem sg_sm_0 {f : Nat → Nat} : ∀ n, (∀ i, i < n → f i = 0) → sg_sm f n = 0
  | 0, _ => rfl
  | n + 1, h => by
    show sg_sm f n + f n = 0
    rw [sg_sm_0 n (fun i hi => h i (by omega)), h n (by omega)]
theorem sg_cn_le (p : Nat → Bool) : ∀ n, sg_cn p n ≤ n
  | 0 => Nat.le_refl _
  | n + 1 => by
    have := sg_cn_le p n
    show sg_cn p n + (if p n = true then 1 else 0) ≤ n + 1
    split <;> omega
theorem sg_cn_congr {p q : Nat → Bool} : ∀ n, (∀ i, i < n → p i = q i) → sg_cn p n = sg_cn q n
  | 0, _ => rfl
  | n + 1, h => by
    show sg_cn p n + (if p n = true then 1 else 0) = sg_cn q n + (if q n = true then 1 else 0)
    rw [sg_cn_congr n (fun i hi => h i (by omega)), h n (by omega)]
theorem sg_cn_mono {p q : Nat → Bool} : ∀ n, (∀ i, i < n → p i = true → q i = true) → sg_cn p n ≤ sg_cn q n
  | 0, _ => Nat.le_refl _
  | n + 1, h => by
    have h1 := sg_cn_mono n (fun i hi => h i (by omega))
    have h2 := h n (by omega)
    show sg_cn p n + (if p n = true then 1 else 0) ≤ sg_cn q n + (if q n = true then 1 else 0)
    by_cases hp : p n = true
    · rw [if_pos hp, if_pos (h2 hp)]; omega
    · rw [if_neg hp]; omega
theorem sg_cn_lt {p q : Nat → Bool} : ∀ n e, (∀ i, i < n → p i = true → q i = true) → e < n → q e = true → p e = false → sg_cn p n < sg_cn q n
  | 0, e, _, h, _, _ => absurd h (by omega)
  | n + 1, e, h, he, hq, hp => by
    show sg_cn p n + (if p n = true then 1 else 0) < sg_cn q n + (if q n = true then 1 else 0)
    rcases Nat.lt_or_ge e n with h1 | h1
    · have h3 := sg_cn_lt n e (fun i hi => h i (by omega)) h1 hq hp
      have h2 := h n (by omega)
      by_cases hp' : p n = true
      · rw [if_pos hp', if_pos (h2 hp')]; omega
      · rw [if_neg hp']; omega
    · have h4 : e = n := by omega
      subst h4
      have h3 := sg_cn_mono e (fun i hi => h i (by omega))
      rw [if_pos hq, if_neg (by rw [hp]; decide)]; omega
theorem sg_cn_0 {p : Nat → Bool} : ∀ n, (∀ i, i < n → p i = false) → sg_cn p n = 0
  | 0, _ => rfl
  | n + 1, h => by
    show sg_cn p n + (if p n = true then 1 else 0) = 0
    rw [sg_cn_0 n (fun i hi => h i (by omega)), h n (by omega)]; rfl
theorem sg_cn_all {p : Nat → Bool} : ∀ n, (∀ i, i < n → p i = true) → sg_cn p n = n
  | 0, _ => rfl
  | n + 1, h => by
    show sg_cn p n + (if p n = true then 1 else 0) = n + 1
    rw [sg_cn_all n (fun i hi => h i (by omega)), h n (by omega)]; rfl
theorem sg_cn_pos {p : Nat → Bool} {n e : Nat} (h : e < n) (hp : p e = true) : 0 < sg_cn p n := by
  have h1 : sg_cn (fun _ => false) n < sg_cn p n := sg_cn_lt n e (fun i _ h => absurd h (by decide)) h hp rfl
  omega
theorem sg_cn_split {p : Nat → Bool} (a : Nat) : ∀ b, sg_cn p (a + b) = sg_cn p a + sg_cn (fun i => p (a + i)) b
  | 0 => rfl
  | b + 1 => by
    show sg_cn p (a + b) + (if p (a + b) = true then 1 else 0) = sg_cn p a + (sg_cn (fun i => p (a + i)) b + (if p (a + b) = true then 1 else 0))
    rw [sg_cn_split a b]; omega
theorem sg_sm_split {f : Nat → Nat} (a : Nat) : ∀ b, sg_sm f (a + b) = sg_sm f a + sg_sm (fun i => f (a + i)) b
  | 0 => rfl
  | b + 1 => by
    show sg_sm f (a + b) + f (a + b) = sg_sm f a + (sg_sm (fun i => f (a + i)) b + f (a + b))
    rw [sg_sm_split a b]; omega
theorem sg_sm_2d (f : Nat → Nat → Nat) : ∀ n, sg_sm (fun i => f (i / 12) (i % 12)) (12 * n) = sg_sm (fun i => sg_sm (f i) 12) n
  | 0 => rfl
  | n + 1 => by
    show sg_sm (fun i => f (i / 12) (i % 12)) (12 * n + 12) = sg_sm (fun i => sg_sm (f i) 12) n + sg_sm (f n) 12
    rw [sg_sm_split, sg_sm_2d f n]
    congr 1
    apply sg_sm_congr
    intro i hi
    show f ((12 * n + i) / 12) ((12 * n + i) % 12) = f n i
    have h1 : (12 * n + i) / 12 = n := by omega
    have h2 : (12 * n + i) % 12 = i := by omega
    rw [h1, h2]
theorem sg_cn_not (p : Nat → Bool) : ∀ n, sg_cn (fun i => !p i) n = n - sg_cn p n
  | 0 => rfl
  | n + 1 => by
    have h := sg_cn_le p n
    show sg_cn (fun i => !p i) n + (if (!p n) = true then 1 else 0) = n + 1 - (sg_cn p n + (if p n = true then 1 else 0))
    rw [sg_cn_not p n]
    cases p n <;> simp <;> omega
/-! expressions: read from the end with a stack, and from the front with what is due -/
def sq_bs (t : Nat) (o : Option (List Bool)) : Option (List Bool) :=
  match o with
  | none => none
  | some st => if 8 ≤ t ∧ t ≤ 12 then
      (match st with
      | a :: b :: r => if (t = 11 ∨ t = 12) ∧ ¬ (a = true ∧ b = true) then none else some (decide (t = 11 ∨ t = 12) :: r)
      | _ => none)
    else some (decide (t < 8) :: st)
def sq_b : List Nat → Option (List Bool)
  | [] => some []
  | t :: l => sq_bs t (sq_b l)
def sq_sp (t : Nat) : Bool := decide (t < 8 ∨ t = 11 ∨ t = 12)
def sq_f : List Bool → List Nat → Bool
  | due, [] => due.isEmpty
  | [], _ :: _ => false
  | k :: due, t :: l => if k = true ∧ sq_sp t = false then false else sq_f (if 8 ≤ t ∧ t ≤ 12 then sq_sp t :: sq_sp t :: due else due) l
def sq_m : List Bool → List Bool → Prop
  | [], [] => True
  | a :: st, k :: due => (k = true → a = true) ∧ sq_m st due
  | _, _ => False
theorem sq_bs_cons {t : Nat} {o : Option (List Bool)} {st : List Bool} (h : sq_bs t o = some st) : ∃ a r, st = a :: r := by
  unfold sq_bs at h
  split at h
  · exact absurd h (by simp)
  · split at h
    · split at h
      · split at h
        · exact absurd h (by simp)
        · exact ⟨_, _, (Option.some.inj h).symm⟩
      · exact absurd h (by simp)
    · exact ⟨_, _, (Option.some.inj h).symm⟩
theorem sq_eq : ∀ (l : List Nat) (due : List Bool), sq_f due l = true ↔ ∃ st, sq_b l = some st ∧ sq_m st due := by
  intro l
  induction l with
  | nil =>
    intro due
    cases due with
    | nil => exact ⟨fun _ => ⟨[], rfl, trivial⟩, fun _ => rfl⟩
    | cons k due =>
      constructor
      · intro h; exact absurd h (by simp [sq_f])
      · rintro ⟨st, h1, h2⟩
        have : st = [] := (Option.some.inj h1).symm
        subst this
        exact absurd h2 (by simp [sq_m])
  | cons t l ih =>
    intro due
    cases due with
    | nil =>
      constructor
      · intro h; exact absurd h (by simp [sq_f])
      · rintro ⟨st, h1, h2⟩
        obtain ⟨a, r, e⟩ := sq_bs_cons (show sq_bs t (sq_b l) = some st from h1)
        subst e
        exact absurd h2 (by simp [sq_m])
    | cons k due =>
      have e : sq_f (k :: due) (t :: l) = if k = true ∧ sq_sp t = false then false else sq_f (if 8 ≤ t ∧ t ≤ 12 then sq_sp t :: sq_sp t :: due else due) l := rfl
      have e2 : sq_b (t :: l) = sq_bs t (sq_b l) := rfl
      rw [e, e2]
      by_cases hj : 8 ≤ t ∧ t ≤ 12
      · rw [if_pos hj]
        have hsp : sq_sp t = decide (t = 11 ∨ t = 12) := by
          unfold sq_sp
          rw [decide_eq_decide]
          omega
        constructor
        · intro h
          split at h
          · exact absurd h (by decide)
          · rename_i hk
            obtain ⟨st, h1, h2⟩ := (ih _).mp h
            match st, h2 with
            | a :: b :: r, h2 =>
              obtain ⟨ha, hb, hr⟩ := h2
              refine ⟨decide (t = 11 ∨ t = 12) :: r, ?_, ?_, hr⟩
              · rw [h1]
                show (if 8 ≤ t ∧ t ≤ 12 then _ else _) = _
                rw [if_pos hj]
                show (if (t = 11 ∨ t = 12) ∧ ¬ (a = true ∧ b = true) then none else _) = _
                rw [if_neg]
                rintro ⟨h3, h4⟩
                have h5 : sq_sp t = true := by rw [hsp]; exact decide_eq_true h3
                exact h4 ⟨ha h5, hb h5⟩
              · intro h3
                rw [← hsp]
                cases h5 : sq_sp t with
                | true => rfl
                | false => exact absurd ⟨h3, h5⟩ hk
            | [a], h2 => exact absurd h2.2 (by simp [sq_m])
            | [], h2 => exact absurd h2 (by simp [sq_m])
        · rintro ⟨st, h1, h2⟩
          cases hb : sq_b l with
          | none => rw [hb] at h1; exact absurd h1 (by simp [sq_bs])
          | some st0 =>
            rw [hb] at h1
            unfold sq_bs at h1
            simp only at h1
            have h1' := h1
            clear h1
            rw [if_pos hj] at h1'
            match st0, hb, h1' with
            | a :: b :: r, hb, h1' =>
              have h6 : (if (t = 11 ∨ t = 12) ∧ ¬ (a = true ∧ b = true) then none else some (decide (t = 11 ∨ t = 12) :: r)) = some st := h1'
              split at h6
              · exact absurd h6 (by simp)
              · rename_i hn
                have h7 := (Option.some.inj h6).symm
                subst h7
                obtain ⟨hk, hr⟩ := h2
                rw [← hsp] at hk
                rw [if_neg (fun h => by rw [hk h.1] at h; exact absurd h.2 (by decide))]
                refine (ih _).mpr ⟨a :: b :: r, hb, ?_, ?_, hr⟩
                · intro h8
                  rw [hsp] at h8
                  have h9 := of_decide_eq_true h8
                  cases a with
                  | true => rfl
                  | false => exact absurd ⟨h9, by simp⟩ hn
                · intro h8
                  rw [hsp] at h8
                  have h9 := of_decide_eq_true h8
                  cases b with
                  | true => rfl
                  | false => exact absurd ⟨h9, by simp⟩ hn
            | [a], hb, h1' => exact absurd h1' (by simp)
            | [], hb, h1' => exact absurd h1' (by simp)
      · rw [if_neg hj]
        have hsp : sq_sp t = decide (t < 8) := by
          unfold sq_sp
          rw [decide_eq_decide]
          omega
        constructor
        · intro h
          split at h
          · exact absurd h (by decide)
          · rename_i hk
            obtain ⟨st, h1, h2⟩ := (ih _).mp h
            refine ⟨decide (t < 8) :: st, ?_, ?_, h2⟩
            · rw [h1]
              show (if 8 ≤ t ∧ t ≤ 12 then _ else _) = _
              rw [if_neg hj]
            · intro h3
              rw [← hsp]
              cases h5 : sq_sp t with
              | true => rfl
              | false => exact absurd ⟨h3, h5⟩ hk
        · rintro ⟨st, h1, h2⟩
          cases hb : sq_b l with
          | none => rw [hb] at h1; exact absurd h1 (by simp [sq_bs])
          | some st0 =>
            rw [hb] at h1
            unfold sq_bs at h1
            simp only at h1
            have h1' := h1
            clear h1
            rw [if_neg hj] at h1'
            have h7 := (Option.some.inj h1').symm
            subst h7
            obtain ⟨hk, hr⟩ := h2
            rw [← hsp] at hk
            rw [if_neg (fun h => by rw [hk h.1] at h; exact absurd h.2 (by decide))]
            exact (ih _).mpr ⟨st0, hb, hr⟩
theorem sq_top (l : List Nat) : sq_f [false] l = true ↔ ∃ v, sq_b l = some [v] := by
  rw [sq_eq]
  constructor
  · rintro ⟨st, h1, h2⟩
    match st, h2 with
    | [a], _ => exact ⟨a, h1⟩
    | [], h2 => exact absurd h2 (by simp [sq_m])
    | _ :: _ :: _, h2 => exact absurd h2.2 (by simp [sq_m])
  · rintro ⟨v, h⟩
    exact ⟨[v], h, fun h => absurd h (by decide), trivial⟩
theorem sq_b_tail {t : Nat} {l : List Nat} {st : List Bool} (h : sq_b (t :: l) = some st) : ∃ st0, sq_b l = some st0 := by
  cases hb : sq_b l with
  | none =>
    have : sq_bs t (sq_b l) = some st := h
    rw [hb] at this
    exact absurd this (by simp [sq_bs])
  | some st0 => exact ⟨st0, rfl⟩
theorem sq_b_len : ∀ {l : List Nat} {st : List Bool}, sq_b l = some st → st.length ≤ l.length := by
  intro l
  induction l with
  | nil =>
    intro st h
    have : st = [] := (Option.some.inj h).symm
    subst this
    exact Nat.le_refl _
  | cons t l ih =>
    intro st h
    obtain ⟨st0, h0⟩ := sq_b_tail h
    have h1 : sq_bs t (sq_b l) = some st := h
    rw [h0] at h1
    have h2 := ih h0
    unfold sq_bs at h1
    simp only at h1
    split at h1
    · split at h1
      · split at h1
        · exact absurd h1 (by simp)
        · have := (Option.some.inj h1).symm
          subst this
          simp only [List.length_cons] at h2 ⊢
          omega
      · exact absurd h1 (by simp)
    · have := (Option.some.inj h1).symm
      subst this
      simp only [List.length_cons] at h2 ⊢
      omega
