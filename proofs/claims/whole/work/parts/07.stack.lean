/-! the stacks of both sides -/
def sx_E (own : Nat) (pM pS pW pP : Nat → Int32) (p : Nat) (v : sv_T) : Prop :=
  pM p = sg_B (sv_mt v) ∧ pS p = nI (sv_ss own v) ∧ (v.1 = true → pW p = nI v.2.2.1 ∧ ∀ i, i < 12 → pP (12 * p + i) = v.2.1 i)
def sx_R (own : Nat) (pM pS pW pP : Nat → Int32) : List sv_T → Prop
  | [] => True
  | v :: r => sx_E own pM pS pW pP r.length v ∧ sx_R own pM pS pW pP r
def sx_F (n : Nat) (pM pS pW pP pM' pS' pW' pP' : Nat → Int32) : Prop :=
  ∀ p, p < n → pM' p = pM p ∧ pS' p = pS p ∧ pW' p = pW p ∧ ∀ i, i < 12 → pP' (12 * p + i) = pP (12 * p + i)
theorem sx_R_fr {own : Nat} {pM pS pW pP pM' pS' pW' pP' : Nat → Int32} : ∀ {st : List sv_T}, sx_F st.length pM pS pW pP pM' pS' pW' pP' → sx_R own pM pS pW pP st → sx_R own pM' pS' pW' pP' st
  | [], _, _ => trivial
  | v :: r, f, h => by
    obtain ⟨h1, h2⟩ := h
    refine ⟨?_, sx_R_fr (fun p hp => f p (by rw [List.length_cons]; omega)) h2⟩
    obtain ⟨f1, f2, f3, f4⟩ := f r.length (by rw [List.length_cons]; omega)
    obtain ⟨e1, e2, e3⟩ := h1
    refine ⟨by rw [f1, e1], by rw [f2, e2], fun hv => ⟨by rw [f3, (e3 hv).1], fun i hi => by rw [f4 i hi, (e3 hv).2 i hi]⟩⟩
def sy_E (iS ma sp wt : Nat → Int32) (sc : Nat → Int64) (p : Nat) (v : sv_T) : Prop :=
  iS p = sg_B v.1 ∧ (v.1 = true → wt p = nI v.2.2.1 ∧ ∀ i, i < 12 → sp (12 * p + i) = v.2.1 i) ∧ (v.1 = false → ma p = sg_B v.2.2.2.1 ∧ sc p = lN v.2.2.2.2)
def sy_R (iS ma sp wt : Nat → Int32) (sc : Nat → Int64) : List sv_T → Prop
  | [] => True
  | v :: r => sy_E iS ma sp wt sc r.length v ∧ sy_R iS ma sp wt sc r
def sy_F (n : Nat) (iS ma sp wt : Nat → Int32) (sc : Nat → Int64) (iS' ma' sp' wt' : Nat → Int32) (sc' : Nat → Int64) : Prop :=
  ∀ p, p < n → iS' p = iS p ∧ ma' p = ma p ∧ wt' p = wt p ∧ sc' p = sc p ∧ ∀ i, i < 12 → sp' (12 * p + i) = sp (12 * p + i)
theorem sy_R_fr {iS ma sp wt : Nat → Int32} {sc : Nat → Int64} {iS' ma' sp' wt' : Nat → Int32} {sc' : Nat → Int64} : ∀ {st : List sv_T}, sy_F st.length iS ma sp wt sc iS' ma' sp' wt' sc' → sy_R iS ma sp wt sc st → sy_R iS' ma' sp' wt' sc' st
  | [], _, _ => trivial
  | v :: r, f, h => by
    obtain ⟨h1, h2⟩ := h
    refine ⟨?_, sy_R_fr (fun p hp => f p (by rw [List.length_cons]; omega)) h2⟩
    obtain ⟨f1, f2, f3, f4, f5⟩ := f r.length (by rw [List.length_cons]; omega)
    obtain ⟨e1, e2, e3⟩ := h1
    refine ⟨by rw [f1, e1], fun hv => ⟨by rw [f3, (e2 hv).1], fun i hi => by rw [f5 i hi, (e2 hv).2 i hi]⟩, fun hv => ⟨by rw [f2, (e3 hv).1], by rw [f4, (e3 hv).2]⟩⟩
/-- the settled value -/
def sv_se (own : Nat) (v : sv_T) : sv_T := if v.1 = true then (false, fun _ => 0, 0, sv_mt v, sv_ss own v) else v
theorem sv_se_1 (own : Nat) (v : sv_T) : (sv_se own v).1 = false := by
  unfold sv_se
  split
  · rfl
  · rename_i h
    cases h2 : v.1 with
    | true => exact absurd h2 h
    | false => rfl
theorem sv_se_m (own : Nat) (v : sv_T) : sv_mt (sv_se own v) = sv_mt v ∧ (sv_se own v).2.2.2.1 = sv_mt v := by
  unfold sv_se
  split
  · exact ⟨rfl, rfl⟩
  · rename_i h
    refine ⟨rfl, ?_⟩
    unfold sv_mt
    rw [if_neg h]
theorem sv_se_s (own : Nat) (v : sv_T) : sv_ss own (sv_se own v) = sv_ss own v ∧ (sv_se own v).2.2.2.2 = sv_ss own v := by
  unfold sv_se
  split
  · exact ⟨rfl, rfl⟩
  · rename_i h
    refine ⟨rfl, ?_⟩
    unfold sv_ss
    rw [if_neg h]
/-- the answer of a query on one document -/
def sv_rm (W : Nat → Nat) (own : Nat) (T : Nat → Int32) (len pr : Nat) (l : List Nat) : Bool :=
  match sv_ev W own T len pr l with
  | [] => false
  | v :: _ => sv_mt v
def sv_rs (W : Nat → Nat) (own : Nat) (T : Nat → Int32) (len pr : Nat) (l : List Nat) : Nat :=
  match sv_ev W own T len pr l with
  | [] => 0
  | v :: _ => sv_ss own v
theorem sv_rm_ind {W V : Nat → Nat} {own own' : Nat} {T : Nat → Int32} {len pr : Nat} (l : List Nat) : sv_rm W own T len pr l = sv_rm V own' T len pr l := by
  have h := sv_ev_e2 (W := W) (V := V) (own := own) (own' := own') (T := T) (len := len) (pr := pr) l
  unfold sv_rm
  generalize sv_ev W own T len pr l = E at h
  generalize sv_ev V own' T len pr l = F at h
  match E, F, h with
  | [], [], _ => rfl
  | _ :: _, _ :: _, h => exact h.1.2.2
theorem sv_rs_le {W : Nat → Nat} {own : Nat} {T : Nat → Int32} {len pr : Nat} (hW : ∀ t, t < 8 → W t ≤ 9) (l : List Nat) : sv_rs W own T len pr l ≤ 27 * l.length := by
  have h := sv_ev_pt (own := own) (T := T) (len := len) (pr := pr) hW l
  unfold sv_rs
  generalize sv_ev W own T len pr l = E at h
  match E, h with
  | [], _ => exact Nat.zero_le _
  | v :: r, h =>
    have h1 := sv_ss_le own v
    have h2 : sv_pt (v :: r) = 3 * v.2.2.1 + v.2.2.2.2 + sv_pt r := rfl
    show sv_ss own v ≤ _
    omega
theorem sv_like {W : Nat → Nat} {own : Nat} {T : Nat → Int32} {len pr : Nat} (ws : List Nat) (h0 : ws ≠ []) (h : ∀ w, w ∈ ws → w < 8) :
    sv_rm W own T len pr (sv_lx ws) = sv_rm W own T len pr (sv_ly ws) ∧ sv_rs W own T len pr (sv_lx ws) = sv_rs W own T len pr (sv_ly ws) := by
  obtain ⟨v, h1, h2, h3⟩ := sv_lx_ev (W := W) (own := own) (T := T) (len := len) (pr := pr) ws h0 h
  obtain ⟨u, g1, g2, g3⟩ := sv_ly_ev (W := W) (own := own) (T := T) (len := len) (pr := pr) ws h0 h
  unfold sv_rm sv_rs
  rw [h1, g1]
  exact ⟨by show sv_mt v = sv_mt u; rw [h2, g2], by show sv_ss own v = sv_ss own u; rw [h3, g3]⟩
theorem sv_one {W : Nat → Nat} {own : Nat} {T : Nat → Int32} {len pr : Nat} {l : List Nat} {k : Bool} (ht : sv_tks l) (h : sq_b l = some [k]) : ∃ v, sv_ev W own T len pr l = [v] := by
  have := sv_kinds (W := W) (own := own) (T := T) (len := len) (pr := pr) ht h
  generalize sv_ev W own T len pr l = E at this
  match E, this with
  | [v], _ => exact ⟨v, rfl⟩
  | [], h => exact absurd h (by simp)
  | _ :: _ :: _, h => exact absurd h (by simp)
theorem sr_drop {l : List Nat} {i : Nat} (h : i < l.length) : l.drop i = l.getD i 0 :: l.drop (i + 1) := by
  rw [List.drop_eq_getElem_cons h]
  congr 1
  rw [List.getD_eq_getElem?_getD, List.getElem?_eq_getElem h]; rfl
theorem sr_getD_mem {l : List Nat} {i : Nat} (h : i < l.length) : l.getD i 0 ∈ l := by
  rw [List.getD_eq_getElem?_getD, List.getElem?_eq_getElem h]
  exact List.getElem_mem h
theorem sq_b_drop {l : List Nat} {st : List Bool} (h : sq_b l = some st) : ∀ i, i ≤ l.length → ∃ st', sq_b (l.drop i) = some st'
  | 0, _ => ⟨st, h⟩
  | i + 1, hi => by
    obtain ⟨st', h'⟩ := sq_b_drop h i (by omega)
    rw [sr_drop (by omega)] at h'
    exact sq_b_tail h'
