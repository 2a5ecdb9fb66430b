def sr_H (a : Nat → Int32) (b : Nat) (q : List Nat) : Prop := ∀ i, i < q.length → a (b + i) = nI (q.getD i 0)
def sr_Q (q : List Nat) (pq tk ln : Nat → Int32) : Prop := q.length ≤ 12 ∧ sv_tks q ∧ ln 0 = nI q.length ∧ sr_H pq 0 q ∧ sr_H tk 0 q
def sr_W (W : Nat → List Nat) (wq wl tk ln : Nat → Int32) : Prop :=
  ∀ w, w < 4 → (W w).length ≤ 12 ∧ sv_tks (W w) ∧ (W w ≠ [] → ∃ v, sq_b (W w) = some [v]) ∧ wl w = nI (W w).length ∧ ln (1 + w) = nI (W w).length ∧ sr_H wq (12 * w) (W w) ∧ sr_H tk (16 * (1 + w)) (W w)
def sr_N (NC : Nat → Int32) : Prop := ∀ w, w < 4 → ∃ c, c ≤ 8 ∧ NC w = nI c
def sr_K (hc : Nat) (hN hS kN : Nat → Int32) (kS : Nat → Int64) : Prop := hc ≤ 10 ∧ ∀ p, p < hc → hN p = kN p ∧ hS p = (kS p).toInt32
def sr_S (a b : Nat → Int32) : Prop := ∀ k, k < 10 → a k = b k
