def sr_H (a : Nat → Int32) (b : Nat) (q : List Nat) : Prop := ∀ i, i < q.length → a (b + i) = nI (q.getD i 0)
def sr_Q (q : List Nat) (pq tk ln : Nat → Int32) : Prop := q.length ≤ 12 ∧ sv_tks q ∧ ln 0 = nI q.length ∧ sr_H pq 0 q ∧ sr_H tk 0 q
def sr_W (W : Nat → List Nat) (wq wl tk ln : Nat → Int32) : Prop :=
  ∀ w, w < 4 → (W w).length ≤ 12 ∧ sv_tks (W w) ∧ (W w ≠ [] → ∃ v, sq_b (W w) = some [v]) ∧ wl w = nI (W w).length ∧ ln (1 + w) = nI (W w).length ∧ sr_H wq (12 * w) (W w) ∧ sr_H tk (16 * (1 + w)) (W w)
def sr_N (NC : Nat → Int32) : Prop := ∀ w, w < 4 → ∃ c, c ≤ 8 ∧ NC w = nI c
def sr_K (hc : Nat) (hN hS kN : Nat → Int32) (kS : Nat → Int64) : Prop := hc ≤ 10 ∧ ∀ p, p < hc → hN p = kN p ∧ hS p = (kS p).toInt32
def sr_S (a b : Nat → Int32) : Prop := ∀ k, k < 10 → a k = b k
def sr_D (D : sd_D) (lX lY : Nat → Int32) (dc sg : Nat) : Prop := sd_ok D ∧ (∃ st, sd_I D.2.2.2.2.1 st dc sg ∧ dc ≤ st + 3) ∧ ∀ j, j < sg → lX j = lY j
def i_Rel (k : Nat) (u : SX) (v : SY) : Prop :=
  ∃ (dc m sg pt hc : Nat) (q : List Nat) (W : Nat → List Nat) (sC sL : Int32)
    (N P L T S X lX PT pq lq pI pM pS pW pP wW hN hS hR sh wq wl NN NC : Nat → Int32)
    (lY tk ln kd sp wt iS ma kN sY iH : Nat → Int32) (sc kS hI : Nat → Int64),
    u = (nI dc, nI m, nI sg, nI pt, nI q.length, sC, sL, nI hc, N, P, L, T, S, X, lX, PT, pq, lq, pI, pM, pS, pW, pP, wW, hN, hS, hR, sh, wq, wl, NN, NC) ∧
    v = (nI dc, nI sg, nI m, nI pt, nI hc, N, P, L, T, S, X, lY, PT, tk, ln, kd, sp, wt, iS, ma, sc, NN, NC, kN, kS, sY, iH, hI) ∧
    m ≤ k ∧ pt ≤ 12 ∧ sr_D (N, P, L, T, S, X) lX lY dc sg ∧ sr_Q q pq tk ln ∧ sr_W W wq wl tk ln ∧ sr_N NC ∧ sr_K hc hN hS kN kS ∧ sr_S sh sY
