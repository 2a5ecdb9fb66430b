section
theorem pk_us {f : Nat → Int32} {k : Nat} {x : Int32} : upd f k x k = x := if_pos rfl
theorem pk_un {f : Nat → Int32} {k j : Nat} {x : Int32} (h : j ≠ k) : upd f k x j = f j := if_neg h
theorem pk_uLs {f : Nat → Int64} {k : Nat} {x : Int64} : vp_updL f k x k = x := if_pos rfl
theorem pk_uLn {f : Nat → Int64} {k j : Nat} {x : Int64} (h : j ≠ k) : vp_updL f k x j = f j := if_neg h
theorem pk_sub {a b : Nat} (h : b ≤ a) : nI a - nI b = nI (a - b) := by
  obtain ⟨c, rfl⟩ : ∃ c, a = c + b := ⟨a - b, by omega⟩
  rw [← nI_add, Int32.add_sub_cancel, Nat.add_sub_cancel]
theorem pk_m1 (n : Nat) : nI (n + 1) + (-1) = nI n := by
  rw [← nI_1, Int32.add_assoc, show (1 : Int32) + (-1) = 0 from rfl, Int32.add_zero]
theorem pk_mul (a b : Nat) : nI a * nI b = nI (a * b) := (Int32.ofNat_mul a b).symm
theorem pk_div {a d : Nat} (ha : a < 2 ^ 31) (h0 : 0 < d) (hd : d < 2 ^ 31) : nI a / nI d = nI (a / d) := by
  apply Int32.toInt_inj.mp
  rw [lg_idiv_nonneg (by rw [nI_toInt ha]; omega) (by rw [nI_toInt hd]; omega), nI_toInt ha, nI_toInt hd, nI_toInt (Nat.lt_of_le_of_lt (Nat.div_le_self a d) ha)]
  first | rfl | exact (Int.natCast_ediv _ _).symm
theorem pk_rem {a d : Nat} (ha : a < 2 ^ 31) (h0 : 0 < d) (hd : d < 2 ^ 31) : nI a - nI a / nI d * nI d = nI (a % d) := by
  rw [pk_div ha h0 hd, pk_mul, pk_sub (Nat.div_mul_le_self a d)]
  exact congrArg nI (by have := Nat.div_add_mod' a d; omega)
theorem pk_sub_toInt {a b : Nat} (ha : a < 2 ^ 30) (hb : b < 2 ^ 30) : (nI a - nI b).toInt = (a : Int) - b := by
  rw [Int32.toInt_sub, nI_toInt (by omega), nI_toInt (by omega)]
  exact Int.bmod_eq_of_le (by omega) (by omega)
theorem pk_sneg {a b : Nat} (hb : b < 2 ^ 30) (h : a < b) : nI a - nI b < 0 := by
  rw [Int32.lt_iff_toInt_lt, pk_sub_toInt (by omega) hb, show (0 : Int32).toInt = 0 from by decide]
  omega
theorem pk_ix (x : Int32) {n : Nat} (hn : n < 2 ^ 31) : x < 0 ∨ nI n ≤ x ∨ ∃ j : Nat, j < n ∧ x = nI j := by
  by_cases h : x < 0
  · exact Or.inl h
  · obtain ⟨j, hj, rfl⟩ := nI_of h
    by_cases h2 : j < n
    · exact Or.inr (Or.inr ⟨j, h2, rfl⟩)
    · exact Or.inr (Or.inl (nI_le (by omega) hj))
theorem pk_le {x y : Int32} {A B : Prop} (a b : Nat) (f : a ≤ b → A) (g : b < a → B) (hx : x = nI a := by rfl) (hy : y = nI b := by rfl) (ha : a < 2 ^ 31 := by omega) (hb : b < 2 ^ 31 := by omega) : (x ≤ y → A) ∧ (¬ x ≤ y → B) := by
  subst hx hy
  rw [nI_leI ha hb]
  exact ⟨f, fun z => g (by omega)⟩
theorem pk_lt {x y : Int32} {A B : Prop} (a b : Nat) (f : a < b → A) (g : b ≤ a → B) (hx : x = nI a := by rfl) (hy : y = nI b := by rfl) (ha : a < 2 ^ 31 := by omega) (hb : b < 2 ^ 31 := by omega) : (x < y → A) ∧ (¬ x < y → B) := by
  subst hx hy
  rw [nI_ltI ha hb]
  exact ⟨f, fun z => g (by omega)⟩
theorem pk_eq {x y : Int32} {A B : Prop} (a b : Nat) (f : a = b → A) (g : a ≠ b → B) (hx : x = nI a := by rfl) (hy : y = nI b := by rfl) (ha : a < 2 ^ 31 := by omega) (hb : b < 2 ^ 31 := by omega) : (x = y → A) ∧ (¬ x = y → B) := by
  subst hx hy
  rw [nI_eq ha hb]
  exact ⟨f, g⟩
theorem pk_in {x : Int32} (n N : Nat) (h : n < N) (hx : x = nI n := by rfl) (hN : N < 2 ^ 31 := by omega) : vp_in x N := by
  subst hx
  exact vp_in_nI h hN
theorem pk_cl {x : Int32} (n : Nat) (hx : x = nI n := by rfl) (h : n < 2 ^ 31 := by omega) : x.toNatClampNeg = n := by
  subst hx
  exact nI_clamp h
theorem pk_tn {n : Nat} (h : n < 2 ^ 32) : (nI n).toBitVec.toNat = n := Nat.mod_eq_of_lt h
theorem pk_and (x : Int32) {m : Int32} (k : Nat) (hm : m.toBitVec.toNat = 2 ^ k - 1) : x &&& m = nI (x.toBitVec.toNat % 2 ^ k) := by
  apply Int32.toBitVec_inj.mp
  apply BitVec.eq_of_toNat_eq
  rw [Int32.toBitVec_and, BitVec.toNat_and, hm, Nat.and_two_pow_sub_one_eq_mod]
  show _ = (BitVec.ofNat 32 _).toNat
  rw [BitVec.toNat_ofNat]
  exact (Nat.mod_eq_of_lt (Nat.lt_of_le_of_lt (Nat.mod_le _ _) x.toBitVec.isLt)).symm
theorem pk_andN {n : Nat} (h : n < 2 ^ 32) {m : Int32} (k : Nat) (hm : m.toBitVec.toNat = 2 ^ k - 1) : nI n &&& m = nI (n % 2 ^ k) := by
  rw [pk_and _ k hm, pk_tn h]
theorem pk_andE (x : Int32) {m : Int32} (k : Nat) (hm : m.toBitVec.toNat = 2 ^ k - 1) : ∃ j : Nat, j < 2 ^ k ∧ x &&& m = nI j := ⟨_, Nat.mod_lt _ (Nat.two_pow_pos k), pk_and x k hm⟩
theorem pk_andIn (x : Int32) {m : Int32} (k : Nat) (hm : m.toBitVec.toNat = 2 ^ k - 1) (hk : k ≤ 30) : vp_in (x &&& m) (2 ^ k) := by
  obtain ⟨j, hj, e⟩ := pk_andE x k hm
  rw [e]
  exact vp_in_nI hj (Nat.lt_of_le_of_lt (Nat.pow_le_pow_right (by decide) hk) (by decide))
theorem pk_shl (a s : Int32) (k : Nat) (hs : (s.toBitVec.smod 32).toNat = k) : (a <<< s).toBitVec.toNat = a.toBitVec.toNat * 2 ^ k % 2 ^ 32 := by
  show (a.toBitVec <<< (s.toBitVec.smod 32).toNat).toNat = _
  rw [hs, BitVec.toNat_shiftLeft, Nat.shiftLeft_eq]
theorem pk_shlN {n : Nat} (s : Int32) (k : Nat) (hs : (s.toBitVec.smod 32).toNat = k) (h : n * 2 ^ k < 2 ^ 32) : nI n <<< s = nI (n * 2 ^ k) := by
  apply Int32.toBitVec_inj.mp
  apply BitVec.eq_of_toNat_eq
  have hn : n < 2 ^ 32 := Nat.lt_of_le_of_lt (Nat.le_mul_of_pos_right n (Nat.two_pow_pos k)) h
  rw [pk_shl _ _ k hs, pk_tn hn, pk_tn h, Nat.mod_eq_of_lt h]
theorem pk_shr (a s : Int32) (k : Nat) (hs : (s.toBitVec.smod 32).toNat = k) : (a >>> s).toInt = a.toInt >>> k := by
  show (a.toBitVec.sshiftRight (s.toBitVec.smod 32).toNat).toInt = _
  rw [hs, BitVec.toInt_sshiftRight]
  rfl
theorem pk_shrN {n : Nat} (h : n < 2 ^ 31) (s : Int32) (k : Nat) (hs : (s.toBitVec.smod 32).toNat = k) : nI n >>> s = nI (n / 2 ^ k) := by
  apply Int32.toInt_inj.mp
  have h2 : n / 2 ^ k ≤ n := Nat.div_le_self _ _
  rw [pk_shr _ _ k hs, nI_toInt h, nI_toInt (by omega), Int.shiftRight_eq_div_pow]
  rfl
theorem pk_ushr (x s : Int32) (k : Nat) (hs : ((s.toUInt32 &&& Int32.toUInt32 31).toBitVec % 32).toNat = k) : (x.toUInt32 >>> (s.toUInt32 &&& Int32.toUInt32 31)).toInt32.toBitVec.toNat = x.toBitVec.toNat / 2 ^ k := by
  have e : (x.toUInt32 >>> (s.toUInt32 &&& Int32.toUInt32 31)).toInt32.toBitVec = x.toBitVec >>> k := by
    rw [← hs]
    exact UInt32.toBitVec_shiftRight _ _
  rw [e, BitVec.toNat_ushiftRight, Nat.shiftRight_eq_div_pow]
theorem pk_ushrN {n : Nat} (hn : n < 2 ^ 32) (s : Int32) (k : Nat) (hs : ((s.toUInt32 &&& Int32.toUInt32 31).toBitVec % 32).toNat = k) : ((nI n).toUInt32 >>> (s.toUInt32 &&& Int32.toUInt32 31)).toInt32 = nI (n / 2 ^ k) := by
  apply Int32.toBitVec_inj.mp
  apply BitVec.eq_of_toNat_eq
  rw [pk_ushr _ s k hs, pk_tn hn, pk_tn (Nat.lt_of_le_of_lt (Nat.div_le_self _ _) hn)]
theorem pk_nb (z : Int32) : narrow .byte (.int z.toInt8.toInt32) = .int z.toInt8.toInt32 := congrArg Value.int (by simp)
theorem pk_ns (z : Int32) : narrow .short (.int z.toInt16.toInt32) = .int z.toInt16.toInt32 := congrArg Value.int (by simp)
theorem pk_fb (r : Int32) : fits .byte (.int r.toInt8.toInt32) = true := by
  have ⟨a, b⟩ := lg_i2b_range r
  have h1 : (-128 : Int32).toInt = -128 := by decide
  have h2 : (127 : Int32).toInt = 127 := by decide
  simp only [fits, Bool.and_eq_true, decide_eq_true_eq, Int32.le_iff_toInt_le, h1, h2]
  omega
theorem pk_fs (r : Int32) : fits .short (.int r.toInt16.toInt32) = true := by
  have ⟨a, b⟩ := lg_i2s_range r
  have h1 : (-32768 : Int32).toInt = -32768 := by decide
  have h2 : (32767 : Int32).toInt = 32767 := by decide
  simp only [fits, Bool.and_eq_true, decide_eq_true_eq, Int32.le_iff_toInt_le, h1, h2]
  omega
theorem pk_charN {q : Nat} (hq : q < 65536) : narrow .char (.int (nI q)) = .int (nI q) ∧ fits .char (.int (nI q)) = true := by
  constructor
  · have e : (nI q).toUInt32.toUInt16.toUInt32.toInt32 = nI q := by
      apply Int32.toBitVec_inj.mp
      apply BitVec.eq_of_toNat_eq
      show (nI q).toUInt32.toUInt16.toUInt32.toNat = q % 2 ^ 32
      rw [UInt16.toNat_toUInt32, UInt32.toNat_toUInt16, show (nI q).toUInt32.toNat = q % 2 ^ 32 from rfl]
      omega
    exact congrArg Value.int e
  · have a : (0 : Int32) ≤ nI q := nI_pos' (by omega)
    have b : nI q ≤ 65535 := nI_le (b := 65535) (by omega) (by decide)
    show (decide ((0 : Int32) ≤ nI q) && decide (nI q ≤ 65535)) = true
    rw [decide_eq_true a, decide_eq_true b]
    rfl
theorem pk_char (x : Int32) : (x.toUInt32 % 65536).toInt32 = nI (x.toBitVec.toNat % 65536) := by
  apply Int32.toBitVec_inj.mp
  apply BitVec.eq_of_toNat_eq
  rw [pk_tn (by omega)]
  show (x.toUInt32 % 65536).toNat = _
  rw [UInt32.toNat_mod]
  rfl
theorem pk_nc (x : Int32) : narrow .char (.int (x.toUInt32 % 65536).toInt32) = .int (x.toUInt32 % 65536).toInt32 := by
  rw [pk_char]
  exact (pk_charN (Nat.mod_lt _ (by decide))).1
theorem pk_fc (x : Int32) : fits .char (.int (x.toUInt32 % 65536).toInt32) = true := by
  rw [pk_char]
  exact (pk_charN (Nat.mod_lt _ (by decide))).2
theorem pk_vb (z : Int32) : vp_nar .byte z.toInt8.toInt32 = z.toInt8.toInt32 := by rw [vp_nar_byte]; simp
theorem pk_vs (z : Int32) : vp_nar .short z.toInt16.toInt32 = z.toInt16.toInt32 := by rw [vp_nar_short]; simp
theorem pk_vc (z : Int32) : vp_nar .char (z.toUInt32 % 65536).toInt32 = (z.toUInt32 % 65536).toInt32 := Value.int.inj (pk_nc z)
theorem pk_lT {n : Nat} (h : n < 2 ^ 63) : (lN n).toInt = (n : Int) := lg_ofNat_toInt h
theorem pk_lLT {a b : Nat} (ha : a < 2 ^ 63) (hb : b < 2 ^ 63) : lN a < lN b ↔ a < b := by
  rw [Int64.lt_iff_toInt_lt, pk_lT ha, pk_lT hb]; omega
theorem pk_lLE {a b : Nat} (ha : a < 2 ^ 63) (hb : b < 2 ^ 63) : lN a ≤ lN b ↔ a ≤ b := by
  rw [Int64.le_iff_toInt_le, pk_lT ha, pk_lT hb]; omega
theorem pk_lEQ {a b : Nat} (ha : a < 2 ^ 63) (hb : b < 2 ^ 63) : lN a = lN b ↔ a = b := by
  rw [← Int64.toInt_inj, pk_lT ha, pk_lT hb]; omega
theorem pk_lOf {x : Int64} (h : ¬ x < 0) : ∃ k : Nat, k < 2 ^ 63 ∧ x = lN k := by
  rw [Int64.lt_iff_toInt_lt] at h
  have h0 : (0 : Int64).toInt = 0 := by decide
  have hx := Int64.toInt_lt x
  refine ⟨x.toInt.toNat, by omega, Int64.toInt_inj.mp ?_⟩
  rw [pk_lT (by omega)]
  omega
theorem pk_lDiv {a b : Nat} (ha : a < 2 ^ 63) (h0 : 0 < b) (hb : b < 2 ^ 63) : lN a / lN b = lN (a / b) := by
  apply Int64.toInt_inj.mp
  rw [lg_ldiv_nonneg (by rw [pk_lT ha]; omega) (by rw [pk_lT hb]; omega), pk_lT ha, pk_lT hb, pk_lT (Nat.lt_of_le_of_lt (Nat.div_le_self a b) ha)]
  rfl
theorem pk_lRem {a b : Nat} (ha : a < 2 ^ 63) (h0 : 0 < b) (hb : b < 2 ^ 63) : lN a - lN a / lN b * lN b = lN (a % b) := by
  rw [pk_lDiv ha h0 hb, lN_mul, lN_sub (Nat.div_mul_le_self a b)]
  exact congrArg lN (by have := Nat.div_add_mod' a b; omega)
theorem pk_loop {σ : Type} (W : Nat → Nat → σ → Prop) (I : Nat → σ → Prop) (e i0 : Nat) (s : σ) (hi : i0 ≤ e) (h0 : I i0 s) (hx : ∀ n s, I e s → W (n + 1) e s)
    (hs : ∀ n i s, i < e → I i s → (∀ s', I (i + 1) s' → W n (i + 1) s') → W (n + 1) i s) : ∃ n, W n i0 s :=
  ⟨e + 1, loop_i W I e hx hs (e + 1) i0 s hi (by omega) h0⟩
theorem pk_loopD {σ : Type} (W : Nat → Nat → σ → Prop) (I : Nat → σ → Prop) (hx : ∀ n s, I 0 s → W (n + 1) 0 s)
    (hs : ∀ n i s, I (i + 1) s → (∀ s', I i s' → W n i s') → W (n + 1) (i + 1) s) : ∀ (e : Nat) (s : σ), I e s → W (e + 1) e s := by
  intro e
  induction e with
  | zero => exact fun s h => hx 0 s h
  | succ e ih => exact fun s h => hs (e + 1) e s h (fun s' h' => ih s' h')
def bt (x : Int32) (i : Nat) : Bool := x.toBitVec.getLsbD i
theorem b_ext {x y : Int32} (h : ∀ i, i < 32 → bt x i = bt y i) : x = y := Int32.toBitVec_inj.mp (BitVec.eq_of_getLsbD_eq (fun i hi => h i hi))
theorem b_or (x y : Int32) (i : Nat) : bt (x ||| y) i = (bt x i || bt y i) := by unfold bt; rw [Int32.toBitVec_or, BitVec.getLsbD_or]
theorem b_and (x y : Int32) (i : Nat) : bt (x &&& y) i = (bt x i && bt y i) := by unfold bt; rw [Int32.toBitVec_and, BitVec.getLsbD_and]
theorem b_xor (x y : Int32) (i : Nat) : bt (x ^^^ y) i = (bt x i ^^ bt y i) := by unfold bt; rw [Int32.toBitVec_xor, BitVec.getLsbD_xor]
theorem b_big {x : Int32} {i : Nat} (h : 32 ≤ i) : bt x i = false := BitVec.getLsbD_of_ge _ _ h
theorem b_255 (i : Nat) : bt 255 i = decide (i < 8) := by
  rcases Nat.lt_or_ge i 32 with h | h
  · exact (by decide +kernel : ∀ i, i < 32 → bt 255 i = decide (i < 8)) i h
  · rw [b_big h, decide_eq_false (by omega)]
theorem b_65535 (i : Nat) : bt 65535 i = decide (i < 16) := by
  rcases Nat.lt_or_ge i 32 with h | h
  · exact (by decide +kernel : ∀ i, i < 32 → bt 65535 i = decide (i < 16)) i h
  · rw [b_big h, decide_eq_false (by omega)]
theorem b_m1 : ∀ i, i < 32 → bt (-1) i = true := by decide +kernel
theorem b_0 (i : Nat) : bt 0 i = false := BitVec.getLsbD_zero
theorem s_l : ∀ n, n < 32 → ((nI n &&& 31).toBitVec.smod 32).toNat = n := by decide +kernel
theorem s_u : ∀ n, n < 32 → (((nI n).toUInt32 &&& Int32.toUInt32 31).toBitVec % 32).toNat = n := by decide +kernel
theorem b_shl (n : Nat) (hn : n < 32) (x : Int32) {i : Nat} (hi : i < 32) : bt (x <<< (nI n &&& 31)) i = (decide (n ≤ i) && bt x (i - n)) := by
  unfold bt
  rw [Int32.toBitVec_shiftLeft]
  show (x.toBitVec <<< ((nI n &&& 31).toBitVec.smod 32).toNat).getLsbD i = _
  rw [s_l n hn, BitVec.getLsbD_shiftLeft]
  rcases Nat.lt_or_ge i n with h | h
  · simp [h, Nat.not_le.mpr h]
  · simp [hi, h, Nat.not_lt.mpr h]
theorem b_ushr (n : Nat) (hn : n < 32) (x : Int32) (i : Nat) : bt ((x.toUInt32 >>> ((nI n).toUInt32 &&& Int32.toUInt32 31)).toInt32) i = bt x (n + i) := by
  show (x.toUInt32 >>> ((nI n).toUInt32 &&& Int32.toUInt32 31)).toBitVec.getLsbD i = x.toUInt32.toBitVec.getLsbD (n + i)
  rw [UInt32.toBitVec_shiftRight]
  show (x.toUInt32.toBitVec >>> (((nI n).toUInt32 &&& Int32.toUInt32 31).toBitVec % 32).toNat).getLsbD i = _
  rw [s_u n hn, BitVec.getLsbD_ushiftRight]
theorem b_sshr (n : Nat) (hn : n < 32) (x : Int32) {i : Nat} (hi : i < 32) : bt (x >>> (nI n &&& 31)) i = if n + i < 32 then bt x (n + i) else bt x 31 := by
  unfold bt
  rw [Int32.toBitVec_shiftRight]
  show (x.toBitVec.sshiftRight ((nI n &&& 31).toBitVec.smod 32).toNat).getLsbD i = _
  rw [s_l n hn, BitVec.getLsbD_sshiftRight, BitVec.msb_eq_getLsbD_last]
  simp [hi]
theorem b_shl8 (x : Int32) {i : Nat} (hi : i < 32) : bt (x <<< ((8 : Int32) &&& 31)) i = (decide (8 ≤ i) && bt x (i - 8)) := b_shl 8 (by omega) x hi
theorem b_shl16 (x : Int32) {i : Nat} (hi : i < 32) : bt (x <<< ((16 : Int32) &&& 31)) i = (decide (16 ≤ i) && bt x (i - 16)) := b_shl 16 (by omega) x hi
theorem b_shl24 (x : Int32) {i : Nat} (hi : i < 32) : bt (x <<< ((24 : Int32) &&& 31)) i = (decide (24 ≤ i) && bt x (i - 24)) := b_shl 24 (by omega) x hi
theorem b_sshr8 (x : Int32) {i : Nat} (hi : i < 32) : bt (x >>> ((8 : Int32) &&& 31)) i = if 8 + i < 32 then bt x (8 + i) else bt x 31 := b_sshr 8 (by omega) x hi
end
section
/-! sums and counts -/
def sg_sm (f : Nat → Nat) : Nat → Nat
  | 0 => 0
  | n + 1 => sg_sm f n + f n
def sg_cn (p : Nat → Bool) : Nat → Nat
  | 0 => 0
  | n + 1 => sg_cn p n + (if p n = true then 1 else 0)
def sg_B (b : Bool) : Int32 := if b = true then 1 else 0
theorem sg_sm_congr {f g : Nat → Nat} : ∀ n, (∀ i, i < n → f i = g i) → sg_sm f n = sg_sm g n
  | 0, _ => rfl
  | n + 1, h => by
    show sg_sm f n + f n = sg_sm g n + g n
    rw [sg_sm_congr n (fun i hi => h i (by omega)), h n (by omega)]
theorem sg_sm_le {f : Nat → Nat} (b : Nat) : ∀ n, (∀ i, i < n → f i ≤ b) → sg_sm f n ≤ b * n
  | 0, _ => Nat.zero_le _
  | n + 1, h => by
    have h1 := sg_sm_le b n (fun i hi => h i (by omega))
    have h2 := h n (by omega)
    show sg_sm f n + f n ≤ b * (n + 1)
    rw [Nat.mul_add]; omega
theorem sg_sm_ge {f : Nat → Nat} : ∀ n i, i < n → f i ≤ sg_sm f n
  | 0, i, h => absurd h (by omega)
  | n + 1, i, h => by
    show f i ≤ sg_sm f n + f n
    rcases Nat.lt_or_ge i n with h1 | h1
    · have := sg_sm_ge (f := f) n i h1; omega
    · have : i = n := by omega
      subst this; omega
theorem sg_sm_0 {f : Nat → Nat} : ∀ n, (∀ i, i < n → f i = 0) → sg_sm f n = 0
  | 0, _ => rfl
  | n + 1, h => by
    show sg_sm f n + f n = 0
    rw [sg_sm_0 n (fun i hi => h i (by omega)), h n (by omega)]
theorem sg_cn_le (p : Nat → Bool) : ∀ n, sg_cn p n ≤ n
  | 0 => Nat.le_refl _
  | n + 1 => by
    have := sg_cn_le p n
    show sg_cn p n + (if p n = true then 1 else 0) ≤ n + 1
    split <;> omega
theorem sg_cn_congr {p q : Nat → Bool} : ∀ n, (∀ i, i < n → p i = q i) → sg_cn p n = sg_cn q n
  | 0, _ => rfl
  | n + 1, h => by
    show sg_cn p n + (if p n = true then 1 else 0) = sg_cn q n + (if q n = true then 1 else 0)
    rw [sg_cn_congr n (fun i hi => h i (by omega)), h n (by omega)]
theorem sg_cn_mono {p q : Nat → Bool} : ∀ n, (∀ i, i < n → p i = true → q i = true) → sg_cn p n ≤ sg_cn q n
  | 0, _ => Nat.le_refl _
  | n + 1, h => by
    have h1 := sg_cn_mono n (fun i hi => h i (by omega))
    have h2 := h n (by omega)
    show sg_cn p n + (if p n = true then 1 else 0) ≤ sg_cn q n + (if q n = true then 1 else 0)
    by_cases hp : p n = true
    · rw [if_pos hp, if_pos (h2 hp)]; omega
    · rw [if_neg hp]; omega
theorem sg_cn_lt {p q : Nat → Bool} : ∀ n e, (∀ i, i < n → p i = true → q i = true) → e < n → q e = true → p e = false → sg_cn p n < sg_cn q n
  | 0, e, _, h, _, _ => absurd h (by omega)
  | n + 1, e, h, he, hq, hp => by
    show sg_cn p n + (if p n = true then 1 else 0) < sg_cn q n + (if q n = true then 1 else 0)
    rcases Nat.lt_or_ge e n with h1 | h1
    · have h3 := sg_cn_lt n e (fun i hi => h i (by omega)) h1 hq hp
      have h2 := h n (by omega)
      by_cases hp' : p n = true
      · rw [if_pos hp', if_pos (h2 hp')]; omega
      · rw [if_neg hp']; omega
    · have h4 : e = n := by omega
      subst h4
      have h3 := sg_cn_mono e (fun i hi => h i (by omega))
      rw [if_pos hq, if_neg (by rw [hp]; decide)]; omega
theorem sg_cn_0 {p : Nat → Bool} : ∀ n, (∀ i, i < n → p i = false) → sg_cn p n = 0
  | 0, _ => rfl
  | n + 1, h => by
    show sg_cn p n + (if p n = true then 1 else 0) = 0
    rw [sg_cn_0 n (fun i hi => h i (by omega)), h n (by omega)]; rfl
theorem sg_cn_all {p : Nat → Bool} : ∀ n, (∀ i, i < n → p i = true) → sg_cn p n = n
  | 0, _ => rfl
  | n + 1, h => by
    show sg_cn p n + (if p n = true then 1 else 0) = n + 1
    rw [sg_cn_all n (fun i hi => h i (by omega)), h n (by omega)]; rfl
theorem sg_cn_pos {p : Nat → Bool} {n e : Nat} (h : e < n) (hp : p e = true) : 0 < sg_cn p n := by
  have h1 : sg_cn (fun _ => false) n < sg_cn p n := sg_cn_lt n e (fun i _ h => absurd h (by decide)) h hp rfl
  omega
theorem sg_cn_split {p : Nat → Bool} (a : Nat) : ∀ b, sg_cn p (a + b) = sg_cn p a + sg_cn (fun i => p (a + i)) b
  | 0 => rfl
  | b + 1 => by
    show sg_cn p (a + b) + (if p (a + b) = true then 1 else 0) = sg_cn p a + (sg_cn (fun i => p (a + i)) b + (if p (a + b) = true then 1 else 0))
    rw [sg_cn_split a b]; omega
theorem sg_sm_split {f : Nat → Nat} (a : Nat) : ∀ b, sg_sm f (a + b) = sg_sm f a + sg_sm (fun i => f (a + i)) b
  | 0 => rfl
  | b + 1 => by
    show sg_sm f (a + b) + f (a + b) = sg_sm f a + (sg_sm (fun i => f (a + i)) b + f (a + b))
    rw [sg_sm_split a b]; omega
theorem sg_sm_2d (f : Nat → Nat → Nat) : ∀ n, sg_sm (fun i => f (i / 12) (i % 12)) (12 * n) = sg_sm (fun i => sg_sm (f i) 12) n
  | 0 => rfl
  | n + 1 => by
    show sg_sm (fun i => f (i / 12) (i % 12)) (12 * n + 12) = sg_sm (fun i => sg_sm (f i) 12) n + sg_sm (f n) 12
    rw [sg_sm_split, sg_sm_2d f n]
    congr 1
    apply sg_sm_congr
    intro i hi
    show f ((12 * n + i) / 12) ((12 * n + i) % 12) = f n i
    have h1 : (12 * n + i) / 12 = n := by omega
    have h2 : (12 * n + i) % 12 = i := by omega
    rw [h1, h2]
theorem sg_cn_not (p : Nat → Bool) : ∀ n, sg_cn (fun i => !p i) n = n - sg_cn p n
  | 0 => rfl
  | n + 1 => by
    have h := sg_cn_le p n
    show sg_cn (fun i => !p i) n + (if (!p n) = true then 1 else 0) = n + 1 - (sg_cn p n + (if p n = true then 1 else 0))
    rw [sg_cn_not p n]
    cases p n <;> simp <;> omega
/-! expressions: read from the end with a stack, and from the front with what is due -/
def sq_bs (t : Nat) (o : Option (List Bool)) : Option (List Bool) :=
  match o with
  | none => none
  | some st => if 8 ≤ t ∧ t ≤ 12 then
      (match st with
      | a :: b :: r => if (t = 11 ∨ t = 12) ∧ ¬ (a = true ∧ b = true) then none else some (decide (t = 11 ∨ t = 12) :: r)
      | _ => none)
    else some (decide (t < 8) :: st)
def sq_b : List Nat → Option (List Bool)
  | [] => some []
  | t :: l => sq_bs t (sq_b l)
def sq_sp (t : Nat) : Bool := decide (t < 8 ∨ t = 11 ∨ t = 12)
def sq_f : List Bool → List Nat → Bool
  | due, [] => due.isEmpty
  | [], _ :: _ => false
  | k :: due, t :: l => if k = true ∧ sq_sp t = false then false else sq_f (if 8 ≤ t ∧ t ≤ 12 then sq_sp t :: sq_sp t :: due else due) l
def sq_m : List Bool → List Bool → Prop
  | [], [] => True
  | a :: st, k :: due => (k = true → a = true) ∧ sq_m st due
  | _, _ => False
theorem sq_bs_cons {t : Nat} {o : Option (List Bool)} {st : List Bool} (h : sq_bs t o = some st) : ∃ a r, st = a :: r := by
  unfold sq_bs at h
  split at h
  · exact absurd h (by simp)
  · split at h
    · split at h
      · split at h
        · exact absurd h (by simp)
        · exact ⟨_, _, (Option.some.inj h).symm⟩
      · exact absurd h (by simp)
    · exact ⟨_, _, (Option.some.inj h).symm⟩
theorem sq_eq : ∀ (l : List Nat) (due : List Bool), sq_f due l = true ↔ ∃ st, sq_b l = some st ∧ sq_m st due := by
  intro l
  induction l with
  | nil =>
    intro due
    cases due with
    | nil => exact ⟨fun _ => ⟨[], rfl, trivial⟩, fun _ => rfl⟩
    | cons k due =>
      constructor
      · intro h; exact absurd h (by simp [sq_f])
      · rintro ⟨st, h1, h2⟩
        have : st = [] := (Option.some.inj h1).symm
        subst this
        exact absurd h2 (by simp [sq_m])
  | cons t l ih =>
    intro due
    cases due with
    | nil =>
      constructor
      · intro h; exact absurd h (by simp [sq_f])
      · rintro ⟨st, h1, h2⟩
        obtain ⟨a, r, e⟩ := sq_bs_cons (show sq_bs t (sq_b l) = some st from h1)
        subst e
        exact absurd h2 (by simp [sq_m])
    | cons k due =>
      have e : sq_f (k :: due) (t :: l) = if k = true ∧ sq_sp t = false then false else sq_f (if 8 ≤ t ∧ t ≤ 12 then sq_sp t :: sq_sp t :: due else due) l := rfl
      have e2 : sq_b (t :: l) = sq_bs t (sq_b l) := rfl
      rw [e, e2]
      by_cases hj : 8 ≤ t ∧ t ≤ 12
      · rw [if_pos hj]
        have hsp : sq_sp t = decide (t = 11 ∨ t = 12) := by
          unfold sq_sp
          rw [decide_eq_decide]
          omega
        constructor
        · intro h
          split at h
          · exact absurd h (by decide)
          · rename_i hk
            obtain ⟨st, h1, h2⟩ := (ih _).mp h
            match st, h2 with
            | a :: b :: r, h2 =>
              obtain ⟨ha, hb, hr⟩ := h2
              refine ⟨decide (t = 11 ∨ t = 12) :: r, ?_, ?_, hr⟩
              · rw [h1]
                show (if 8 ≤ t ∧ t ≤ 12 then _ else _) = _
                rw [if_pos hj]
                show (if (t = 11 ∨ t = 12) ∧ ¬ (a = true ∧ b = true) then none else _) = _
                rw [if_neg]
                rintro ⟨h3, h4⟩
                have h5 : sq_sp t = true := by rw [hsp]; exact decide_eq_true h3
                exact h4 ⟨ha h5, hb h5⟩
              · intro h3
                rw [← hsp]
                cases h5 : sq_sp t with
                | true => rfl
                | false => exact absurd ⟨h3, h5⟩ hk
            | [a], h2 => exact absurd h2.2 (by simp [sq_m])
            | [], h2 => exact absurd h2 (by simp [sq_m])
        · rintro ⟨st, h1, h2⟩
          cases hb : sq_b l with
          | none => rw [hb] at h1; exact absurd h1 (by simp [sq_bs])
          | some st0 =>
            rw [hb] at h1
            unfold sq_bs at h1
            simp only at h1
            have h1' := h1
            clear h1
            rw [if_pos hj] at h1'
            match st0, hb, h1' with
            | a :: b :: r, hb, h1' =>
              have h6 : (if (t = 11 ∨ t = 12) ∧ ¬ (a = true ∧ b = true) then none else some (decide (t = 11 ∨ t = 12) :: r)) = some st := h1'
              split at h6
              · exact absurd h6 (by simp)
              · rename_i hn
                have h7 := (Option.some.inj h6).symm
                subst h7
                obtain ⟨hk, hr⟩ := h2
                rw [← hsp] at hk
                rw [if_neg (fun h => by rw [hk h.1] at h; exact absurd h.2 (by decide))]
                refine (ih _).mpr ⟨a :: b :: r, hb, ?_, ?_, hr⟩
                · intro h8
                  rw [hsp] at h8
                  have h9 := of_decide_eq_true h8
                  cases a with
                  | true => rfl
                  | false => exact absurd ⟨h9, by simp⟩ hn
                · intro h8
                  rw [hsp] at h8
                  have h9 := of_decide_eq_true h8
                  cases b with
                  | true => rfl
                  | false => exact absurd ⟨h9, by simp⟩ hn
            | [a], hb, h1' => exact absurd h1' (by simp)
            | [], hb, h1' => exact absurd h1' (by simp)
      · rw [if_neg hj]
        have hsp : sq_sp t = decide (t < 8) := by
          unfold sq_sp
          rw [decide_eq_decide]
          omega
        constructor
        · intro h
          split at h
          · exact absurd h (by decide)
          · rename_i hk
            obtain ⟨st, h1, h2⟩ := (ih _).mp h
            refine ⟨decide (t < 8) :: st, ?_, ?_, h2⟩
            · rw [h1]
              show (if 8 ≤ t ∧ t ≤ 12 then _ else _) = _
              rw [if_neg hj]
            · intro h3
              rw [← hsp]
              cases h5 : sq_sp t with
              | true => rfl
              | false => exact absurd ⟨h3, h5⟩ hk
        · rintro ⟨st, h1, h2⟩
          cases hb : sq_b l with
          | none => rw [hb] at h1; exact absurd h1 (by simp [sq_bs])
          | some st0 =>
            rw [hb] at h1
            unfold sq_bs at h1
            simp only at h1
            have h1' := h1
            clear h1
            rw [if_neg hj] at h1'
            have h7 := (Option.some.inj h1').symm
            subst h7
            obtain ⟨hk, hr⟩ := h2
            rw [← hsp] at hk
            rw [if_neg (fun h => by rw [hk h.1] at h; exact absurd h.2 (by decide))]
            exact (ih _).mpr ⟨st0, hb, hr⟩
theorem sq_top (l : List Nat) : sq_f [false] l = true ↔ ∃ v, sq_b l = some [v] := by
  rw [sq_eq]
  constructor
  · rintro ⟨st, h1, h2⟩
    match st, h2 with
    | [a], _ => exact ⟨a, h1⟩
    | [], h2 => exact absurd h2 (by simp [sq_m])
    | _ :: _ :: _, h2 => exact absurd h2.2 (by simp [sq_m])
  · rintro ⟨v, h⟩
    exact ⟨[v], h, fun h => absurd h (by decide), trivial⟩
theorem sq_b_tail {t : Nat} {l : List Nat} {st : List Bool} (h : sq_b (t :: l) = some st) : ∃ st0, sq_b l = some st0 := by
  cases hb : sq_b l with
  | none =>
    have : sq_bs t (sq_b l) = some st := h
    rw [hb] at this
    exact absurd this (by simp [sq_bs])
  | some st0 => exact ⟨st0, rfl⟩
theorem sq_b_len : ∀ {l : List Nat} {st : List Bool}, sq_b l = some st → st.length ≤ l.length := by
  intro l
  induction l with
  | nil =>
    intro st h
    have : st = [] := (Option.some.inj h).symm
    subst this
    exact Nat.le_refl _
  | cons t l ih =>
    intro st h
    obtain ⟨st0, h0⟩ := sq_b_tail h
    have h1 : sq_bs t (sq_b l) = some st := h
    rw [h0] at h1
    have h2 := ih h0
    unfold sq_bs at h1
    simp only at h1
    split at h1
    · split at h1
      · split at h1
        · exact absurd h1 (by simp)
        · have := (Option.some.inj h1).symm
          subst this
          simp only [List.length_cons] at h2 ⊢
          omega
      · exact absurd h1 (by simp)
    · have := (Option.some.inj h1).symm
      subst this
      simp only [List.length_cons] at h2 ⊢
      omega
end
section
/-! ranks: k stands before e -/
def rk_pr (R : Nat → Int) (k e : Nat) : Bool := decide (R e < R k ∨ (R k = R e ∧ k < e))
def rk_bf (H : Nat → Bool) (R : Nat → Int) (n e : Nat) : Nat := sg_cn (fun k => H k && rk_pr R k e) n
theorem rk_pr_iff {R : Nat → Int} {k e : Nat} : rk_pr R k e = true ↔ (R e < R k ∨ (R k = R e ∧ k < e)) := decide_eq_true_iff
theorem rk_pr_ff {R : Nat → Int} {k e : Nat} : rk_pr R k e = false ↔ ¬ (R e < R k ∨ (R k = R e ∧ k < e)) := decide_eq_false_iff_not
theorem rk_lt {H : Nat → Bool} {R : Nat → Int} {n e f : Nat} (he : e < n) (hH : H e = true) (h : rk_pr R e f = true) : rk_bf H R n e < rk_bf H R n f := by
  apply sg_cn_lt n e
  · intro i _ hi
    have h1 := (Bool.and_eq_true_iff.mp hi)
    have h2 := rk_pr_iff.mp h1.2
    have h3 := rk_pr_iff.mp h
    exact Bool.and_eq_true_iff.mpr ⟨h1.1, rk_pr_iff.mpr (by omega)⟩
  · exact he
  · exact Bool.and_eq_true_iff.mpr ⟨hH, h⟩
  · show (H e && rk_pr R e e) = false
    rw [rk_pr_ff.mpr (by omega), Bool.and_false]
theorem rk_inj {H : Nat → Bool} {R : Nat → Int} {n e f : Nat} (he : e < n) (hf : f < n) (hH : H e = true) (hF : H f = true) (h : e ≠ f) : rk_bf H R n e ≠ rk_bf H R n f := by
  by_cases h1 : rk_pr R e f = true
  · have := rk_lt he hH h1; omega
  · have h2 : ¬ (R f < R e ∨ (R e = R f ∧ e < f)) := fun z => h1 (rk_pr_iff.mpr z)
    have := rk_lt (n := n) (R := R) (f := e) hf hF (rk_pr_iff.mpr (by omega)); omega
theorem rk_succ (H : Nat → Bool) (R : Nat → Int) (n e : Nat) : rk_bf H R (n + 1) e = rk_bf H R n e + (if (H n && rk_pr R n e) = true then 1 else 0) := rfl
/-- the first n rows: hc kept, each place p has its hit -/
def rk_I (H : Nat → Bool) (rk num sco : Nat → Int32) (lim n hc : Nat) (hN hS hR : Nat → Int32) : Prop :=
  hc = min (sg_cn H n) lim ∧ ∀ p, p < hc → ∃ e, e < n ∧ H e = true ∧ rk_bf H (fun i => (rk i).toInt) n e = p ∧ hN p = num e ∧ hS p = sco e ∧ hR p = rk e
theorem rk_no {H : Nat → Bool} {rk num sco : Nat → Int32} {lim n hc : Nat} {hN hS hR : Nat → Int32} (I : rk_I H rk num sco lim n hc hN hS hR) (h : H n = false) :
    rk_I H rk num sco lim (n + 1) hc hN hS hR := by
  obtain ⟨h1, h2⟩ := I
  refine ⟨?_, ?_⟩
  · rw [h1]
    show min (sg_cn H n) lim = min (sg_cn H n + (if H n = true then 1 else 0)) lim
    rw [h]; rfl
  · intro p hp
    obtain ⟨e, he, hH, hb, hr⟩ := h2 p hp
    refine ⟨e, by omega, hH, ?_, hr⟩
    rw [rk_succ, h, hb]; rfl
/-- the place: behind the last that is not less -/
def rk_P (hR : Nat → Int32) (hc : Nat) (x : Int32) (pl : Nat) : Prop :=
  pl ≤ hc ∧ (pl = 0 ∨ x ≤ hR (pl - 1)) ∧ ∀ p, pl ≤ p → p < hc → ¬ x ≤ hR p
theorem rk_up {H : Nat → Bool} {rk num sco : Nat → Int32} {lim n hc pl : Nat} {hN hS hR : Nat → Int32} (I : rk_I H rk num sco lim n hc hN hS hR)
    (hP : rk_P hR hc (rk n) pl) {p : Nat} (hp : p < pl) : ∃ e, e < n ∧ H e = true ∧ rk_bf H (fun i => (rk i).toInt) (n + 1) e = p ∧ hN p = num e ∧ hS p = sco e ∧ hR p = rk e := by
  obtain ⟨h1, h2⟩ := I
  obtain ⟨hle, h0, _⟩ := hP
  obtain ⟨e, he, hH, hb, hr⟩ := h2 p (by omega)
  obtain ⟨e', he', hH', hb', hr'⟩ := h2 (pl - 1) (by omega)
  have hx : rk n ≤ hR (pl - 1) := by
    rcases h0 with h0 | h0
    · omega
    · exact h0
  rw [hr'.2.2, Int32.le_iff_toInt_le] at hx
  refine ⟨e, he, hH, ?_, hr⟩
  rw [rk_succ, hb]
  have : rk_pr (fun i => (rk i).toInt) n e = false := by
    apply rk_pr_ff.mpr
    intro hc
    have hlt : (rk e).toInt < (rk n).toInt := by
      rcases hc with hc | hc
      · exact hc
      · omega
    have h5 := rk_lt (H := H) (R := fun i => (rk i).toInt) (f := e) he' hH' (rk_pr_iff.mpr (Or.inl (by show (rk e).toInt < (rk e').toInt; omega)))
    omega
  rw [this, Bool.and_false]; rfl
theorem rk_skip {H : Nat → Bool} {rk num sco : Nat → Int32} {lim n hc pl : Nat} {hN hS hR : Nat → Int32} (I : rk_I H rk num sco lim n hc hN hS hR)
    (hH : H n = true) (hP : rk_P hR hc (rk n) pl) (hl : lim ≤ pl) : rk_I H rk num sco lim (n + 1) hc hN hS hR := by
  have I' := I
  obtain ⟨h1, h2⟩ := I
  have hle := hP.1
  refine ⟨?_, ?_⟩
  · show hc = min (sg_cn H n + (if H n = true then 1 else 0)) lim
    rw [hH]
    show hc = min (sg_cn H n + 1) lim
    omega
  · intro p hp
    obtain ⟨e, he, hr⟩ := rk_up I' hP (show p < pl by omega)
    exact ⟨e, by omega, hr⟩
def rk_sh (f : Nat → Int32) (pl hc : Nat) (x : Int32) : Nat → Int32 := fun p => if p = pl then x else if pl < p ∧ p < hc then f (p - 1) else f p
theorem rk_step {H : Nat → Bool} {rk num sco : Nat → Int32} {lim n hc pl : Nat} {hN hS hR : Nat → Int32} (I : rk_I H rk num sco lim n hc hN hS hR)
    (hH : H n = true) (hP : rk_P hR hc (rk n) pl) (hl : pl < lim) (hc' : Nat) (e' : hc' = if hc < lim then hc + 1 else hc) :
    rk_I H rk num sco lim (n + 1) hc' (rk_sh hN pl hc' (num n)) (rk_sh hS pl hc' (sco n)) (rk_sh hR pl hc' (rk n)) := by
  have I' := I
  obtain ⟨h1, h2⟩ := I
  have hP' := hP
  obtain ⟨hle, h0, hgt⟩ := hP
  refine ⟨?_, ?_⟩
  · show hc' = min (sg_cn H n + (if H n = true then 1 else 0)) lim
    rw [hH]
    show hc' = min (sg_cn H n + 1) lim
    rw [e']
    split <;> omega
  · intro p hp
    have hp2 : p < hc + 1 := by
      rw [e'] at hp
      split at hp <;> omega
    rcases Nat.lt_trichotomy p pl with h | h | h
    · obtain ⟨e, he, hHe, hb, hr⟩ := rk_up I' hP' h
      have f1 : ∀ (f : Nat → Int32) x, rk_sh f pl hc' x p = f p := by
        intro f x
        unfold rk_sh
        rw [if_neg (by omega), if_neg (by omega)]
      rw [f1, f1, f1]
      exact ⟨e, by omega, hHe, hb, hr⟩
    · subst h
      have f1 : ∀ (f : Nat → Int32) x, rk_sh f p hc' x p = x := by
        intro f x
        unfold rk_sh
        rw [if_pos rfl]
      rw [f1, f1, f1]
      refine ⟨n, by omega, hH, ?_, rfl, rfl, rfl⟩
      rw [rk_succ, rk_pr_ff.mpr (show ¬ ((rk n).toInt < (rk n).toInt ∨ ((rk n).toInt = (rk n).toInt ∧ n < n)) by omega), Bool.and_false]
      show rk_bf H (fun i => (rk i).toInt) n n + 0 = p
      have hA : p ≤ rk_bf H (fun i => (rk i).toInt) n n := by
        rcases Nat.eq_zero_or_pos p with hz | hz
        · omega
        · obtain ⟨e, he, hHe, hb, hr⟩ := h2 (p - 1) (by omega)
          have hx : rk n ≤ hR (p - 1) := by
            rcases h0 with h0 | h0
            · omega
            · exact h0
          rw [hr.2.2, Int32.le_iff_toInt_le] at hx
          have := rk_lt (H := H) (R := fun i => (rk i).toInt) (f := n) he hHe (rk_pr_iff.mpr (by show (rk n).toInt < (rk e).toInt ∨ ((rk e).toInt = (rk n).toInt ∧ e < n); omega))
          omega
      have hB : rk_bf H (fun i => (rk i).toInt) n n ≤ p := by
        rcases Nat.lt_or_ge p hc with hz | hz
        · obtain ⟨e, he, hHe, hb, hr⟩ := h2 p hz
          have hx := hgt p (Nat.le_refl _) hz
          rw [hr.2.2, Int32.le_iff_toInt_le] at hx
          rw [← hb]
          apply sg_cn_mono
          intro i hi hh
          have h7 := (Bool.and_eq_true_iff.mp hh)
          have h8 := rk_pr_iff.mp h7.2
          refine Bool.and_eq_true_iff.mpr ⟨h7.1, rk_pr_iff.mpr (Or.inl ?_)⟩
          show (rk e).toInt < (rk i).toInt
          have h9 : (rk n).toInt < (rk i).toInt ∨ ((rk i).toInt = (rk n).toInt ∧ i < n) := h8
          omega
        · have : rk_bf H (fun i => (rk i).toInt) n n ≤ sg_cn H n := by
            apply sg_cn_mono
            intro i hi hh
            exact (Bool.and_eq_true_iff.mp hh).1
          omega
      omega
    · obtain ⟨e, he, hHe, hb, hr⟩ := h2 (p - 1) (by omega)
      have hx := hgt (p - 1) (by omega) (by omega)
      rw [hr.2.2, Int32.le_iff_toInt_le] at hx
      have f1 : ∀ (f : Nat → Int32) x, rk_sh f pl hc' x p = f (p - 1) := by
        intro f x
        unfold rk_sh
        rw [if_neg (by omega), if_pos (by omega)]
      rw [f1, f1, f1]
      refine ⟨e, by omega, hHe, ?_, hr⟩
      rw [rk_succ, hH, rk_pr_iff.mpr (Or.inl (show (rk e).toInt < (rk n).toInt by omega)), hb]
      show p - 1 + 1 = p
      omega
end
section
/-! the value of a query on one document: (is a span list, the spans, weight, matches, score) -/
abbrev sv_T : Type := Bool × (Nat → Int32) × Nat × Bool × Nat
def sv_bn (x : Int32) (l : Nat) : Nat := if bt x l = true then 1 else 0
def sv_ct (s : Nat → Int32) : Nat := sg_sm (fun i => sg_sm (fun l => sv_bn (s i) l) 12) 12
def sv_sc (own w n : Nat) : Nat := if n = 0 then 0 else w * 220 * n / (100 * n + 30 + own)
def sv_mt (v : sv_T) : Bool := if v.1 = true then decide (0 < sv_ct v.2.1) else v.2.2.2.1
def sv_ss (own : Nat) (v : sv_T) : Nat := if v.1 = true then sv_sc own v.2.2.1 (sv_ct v.2.1) else v.2.2.2.2
def sv_or (b : Nat → Int32) (j : Nat) (acc : Int32) : Nat → Int32
  | 0 => acc
  | m + 1 => sv_or b j acc m ||| b (j + 1 + m)
def sv_ch (far : Nat) (x : Int32) (b : Nat → Int32) : Nat → Int32
  | 0 => 0
  | j + 1 => if bt x j = true then sv_or b j (sv_ch far x b j) (min far (11 - j)) else sv_ch far x b j
def sv_wd (T : Nat → Int32) (len t : Nat) : Nat → Int32 := fun i => if i < len ∧ T i = nI t then (1 : Int32) <<< (nI i &&& 31) else 0
def sv_cm (t : Nat) (x y : Bool) : Bool := if t = 8 then x && y else if t = 9 then x || y else x && !y
def sv_j (own t : Nat) (a b : sv_T) : sv_T :=
  if 11 ≤ t then (true, fun i => sv_ch (if t = 11 then 1 else 3) (a.2.1 i) b.2.1 12, b.2.2.1 + a.2.2.1, false, 0)
  else (false, fun _ => 0, 0, sv_cm t (sv_mt a) (sv_mt b), if t = 10 then sv_ss own a else sv_ss own a + sv_ss own b)
def sv_st (W : Nat → Nat) (own : Nat) (T : Nat → Int32) (len pr t : Nat) (st : List sv_T) : List sv_T :=
  if t < 8 then (true, sv_wd T len t, W t, false, 0) :: st
  else if 1000 ≤ t then (false, fun _ => 0, 0, decide ((t - 1000) / 100 ≤ pr ∧ pr ≤ (t - 1000) % 100), 0) :: st
  else match st with
    | a :: b :: r => sv_j own t a b :: r
    | _ => st
def sv_ev (W : Nat → Nat) (own : Nat) (T : Nat → Int32) (len pr : Nat) : List Nat → List sv_T
  | [] => []
  | t :: l => sv_st W own T len pr t (sv_ev W own T len pr l)
def sv_tk (t : Nat) : Prop := t < 13 ∨ (1000 ≤ t ∧ t < 11000)
def sv_tks (l : List Nat) : Prop := ∀ t, t ∈ l → sv_tk t
theorem sv_bn_le (x : Int32) (l : Nat) : sv_bn x l ≤ 1 := by unfold sv_bn; split <;> omega
theorem sv_ct_le (s : Nat → Int32) : sv_ct s ≤ 144 := by
  have := sg_sm_le (f := fun i => sg_sm (fun l => sv_bn (s i) l) 12) 12 12 (fun i _ => by
    have := sg_sm_le (f := fun l => sv_bn (s i) l) 1 12 (fun l _ => sv_bn_le _ _)
    simpa using this)
  exact this
theorem sv_ct_0 {s : Nat → Int32} (h : ∀ i, i < 12 → s i = 0) : sv_ct s = 0 := by
  apply sg_sm_0
  intro i hi
  apply sg_sm_0
  intro l _
  unfold sv_bn
  rw [h i hi, b_0]; rfl
theorem sv_sc_le (own w n : Nat) : sv_sc own w n ≤ 3 * w := by
  unfold sv_sc
  split
  · omega
  · rename_i h
    apply Nat.le_of_lt_succ
    apply Nat.div_lt_of_lt_mul
    have h1 : w * 220 * n = 220 * (w * n) := by grind
    have h2 : (100 * n + 30 + own) * (3 * w).succ = 300 * (w * n) + 100 * n + (30 + own) * (3 * w + 1) := by
      show (100 * n + 30 + own) * (3 * w + 1) = _
      grind
    rw [h1, h2]
    have : 0 < n := by omega
    omega
/-! kinds -/
theorem sv_kinds {W : Nat → Nat} {own : Nat} {T : Nat → Int32} {len pr : Nat} : ∀ {l : List Nat} {ks : List Bool}, sv_tks l → sq_b l = some ks → (sv_ev W own T len pr l).map Prod.fst = ks := by
  intro l
  induction l with
  | nil =>
    intro ks _ h
    exact Option.some.inj h
  | cons t l ih =>
    intro ks ht h
    obtain ⟨st0, h0⟩ := sq_b_tail h
    have h1 : sq_bs t (sq_b l) = some ks := h
    have h2 := ih (fun x hx => ht x (List.mem_cons_of_mem _ hx)) h0
    have h3 := ht t List.mem_cons_self
    rw [h0] at h1
    show (sv_st W own T len pr t (sv_ev W own T len pr l)).map Prod.fst = ks
    generalize hE : sv_ev W own T len pr l = E at h2
    unfold sq_bs at h1
    simp only at h1
    unfold sv_st
    by_cases hw : t < 8
    · rw [if_neg (by omega)] at h1
      rw [if_pos hw, List.map_cons, h2, ← Option.some.inj h1, decide_eq_true hw]
    · by_cases hr : 1000 ≤ t
      · rw [if_neg (by omega)] at h1
        rw [if_neg hw, if_pos hr, List.map_cons, h2, ← Option.some.inj h1, decide_eq_false hw]
      · have hj : 8 ≤ t ∧ t ≤ 12 := by unfold sv_tk at h3; omega
        rw [if_pos hj] at h1
        rw [if_neg hw, if_neg hr]
        match st0, E, h2, h1 with
        | a :: b :: r, x :: y :: z, h2, h1 =>
          simp only [List.map_cons, List.cons.injEq] at h2
          have h6 : (if (t = 11 ∨ t = 12) ∧ ¬ (a = true ∧ b = true) then none else some (decide (t = 11 ∨ t = 12) :: r)) = some ks := h1
          split at h6
          · exact absurd h6 (by simp)
          · rw [← Option.some.inj h6]
            show (sv_j own t x y).1 :: z.map Prod.fst = _
            rw [h2.2.2]
            congr 1
            unfold sv_j
            by_cases h11 : 11 ≤ t
            · rw [if_pos h11]
              exact (decide_eq_true (by omega)).symm
            · rw [if_neg h11]
              exact (decide_eq_false (by omega)).symm
        | a :: b :: r, [], h2, _ => exact absurd h2 (by simp)
        | a :: b :: r, [x], h2, _ => exact absurd h2 (by simp)
        | [a], _, _, h1 => exact absurd h1 (by simp)
        | [], _, _, h1 => exact absurd h1 (by simp)
/-! spans are late and short; what a stack weighs -/
def sv_so (len : Nat) (s : Nat → Int32) : Prop := ∀ i, i < 12 → (∀ j, j < i → bt (s i) j = false) ∧ (len ≤ i → s i = 0)
def sv_sos (len : Nat) : List sv_T → Prop
  | [] => True
  | v :: r => sv_so len v.2.1 ∧ sv_sos len r
def sv_pt : List sv_T → Nat
  | [] => 0
  | v :: r => (3 * v.2.2.1 + v.2.2.2.2) + sv_pt r
theorem sv_or_bt {b : Nat → Int32} {j x : Nat} {acc : Int32} (ha : bt acc x = false) : ∀ m, (∀ k, j < k → k ≤ j + m → bt (b k) x = false) → bt (sv_or b j acc m) x = false
  | 0, _ => ha
  | m + 1, h => by
    show bt (sv_or b j acc m ||| b (j + 1 + m)) x = false
    rw [b_or, sv_or_bt ha m (fun k h1 h2 => h k h1 (by omega)), h (j + 1 + m) (by omega) (by omega)]; rfl
theorem sv_ch_low {far : Nat} {x : Int32} {b : Nat → Int32} : ∀ i, (∀ j, j < i → bt x j = false) → sv_ch far x b i = 0
  | 0, _ => rfl
  | i + 1, h => by
    show (if bt x i = true then sv_or b i (sv_ch far x b i) (min far (11 - i)) else sv_ch far x b i) = 0
    rw [if_neg (by rw [h i (by omega)]; decide), sv_ch_low i (fun j hj => h j (by omega))]
theorem sv_ch_bt {far i : Nat} {x : Int32} {b : Nat → Int32} (hx : ∀ j, j < i → bt x j = false) (hb : ∀ k, k < 12 → ∀ j, j < k → bt (b k) j = false) :
    ∀ m, m ≤ 12 → ∀ z, z < i → bt (sv_ch far x b m) z = false
  | 0, _, z, _ => b_0 z
  | m + 1, hm, z, hz => by
    show bt (if bt x m = true then sv_or b m (sv_ch far x b m) (min far (11 - m)) else sv_ch far x b m) z = false
    have ih := sv_ch_bt (far := far) hx hb m (by omega) z hz
    split
    · rename_i hbt
      apply sv_or_bt ih
      intro k h1 h2
      have hmi : i ≤ m := by
        rcases Nat.lt_or_ge m i with h3 | h3
        · rw [hx m h3] at hbt; exact absurd hbt (by decide)
        · exact h3
      exact hb k (by omega) z (by omega)
    · exact ih
theorem sv_ch_zero {far : Nat} {b : Nat → Int32} (m : Nat) : sv_ch far 0 b m = 0 := sv_ch_low m (fun j _ => b_0 j)
theorem sv_one_bt : ∀ i, i < 12 → ∀ j, j < i → bt ((1 : Int32) <<< (nI i &&& 31)) j = false := by
  intro i hi j hj
  rw [b_shl i (by omega) 1 (by omega), decide_eq_false (by omega), Bool.false_and]
theorem sv_wd_so (T : Nat → Int32) (len t : Nat) : sv_so len (sv_wd T len t) := by
  intro i hi
  unfold sv_wd
  constructor
  · intro j hj
    split
    · exact sv_one_bt i hi j hj
    · exact b_0 j
  · intro h
    rw [if_neg (by omega)]
theorem sv_z_so (len : Nat) : sv_so len (fun _ => 0) := fun _ _ => ⟨fun j _ => b_0 j, fun _ => rfl⟩
theorem sv_j_so {own t len : Nat} {a b : sv_T} (ha : sv_so len a.2.1) (hb : sv_so len b.2.1) : sv_so len (sv_j own t a b).2.1 := by
  unfold sv_j
  split
  · intro i hi
    show (∀ j, j < i → bt (sv_ch (if t = 11 then 1 else 3) (a.2.1 i) b.2.1 12) j = false) ∧ (len ≤ i → sv_ch (if t = 11 then 1 else 3) (a.2.1 i) b.2.1 12 = 0)
    constructor
    · intro j hj
      exact sv_ch_bt (ha i hi).1 (fun k hk => (hb k hk).1) 12 (by omega) j hj
    · intro h
      rw [(ha i hi).2 h, sv_ch_zero]
  · exact sv_z_so len
theorem sv_ev_so {W : Nat → Nat} {own : Nat} {T : Nat → Int32} {len pr : Nat} : ∀ l, sv_sos len (sv_ev W own T len pr l) := by
  intro l
  induction l with
  | nil => exact trivial
  | cons t l ih =>
    show sv_sos len (sv_st W own T len pr t (sv_ev W own T len pr l))
    generalize sv_ev W own T len pr l = E at ih
    unfold sv_st
    by_cases hw : t < 8
    · rw [if_pos hw]; exact ⟨sv_wd_so _ _ _, ih⟩
    · rw [if_neg hw]
      by_cases hr : 1000 ≤ t
      · rw [if_pos hr]; exact ⟨sv_z_so _, ih⟩
      · rw [if_neg hr]
        match E, ih with
        | a :: b :: r, ih => exact ⟨sv_j_so ih.1 ih.2.1, ih.2.2⟩
        | [a], ih => exact ih
        | [], ih => exact ih
theorem sv_ss_le (own : Nat) (v : sv_T) : sv_ss own v ≤ 3 * v.2.2.1 + v.2.2.2.2 := by
  unfold sv_ss
  split
  · exact Nat.le_trans (sv_sc_le _ _ _) (Nat.le_add_right _ _)
  · exact Nat.le_add_left _ _
theorem sv_ev_pt {W : Nat → Nat} {own : Nat} {T : Nat → Int32} {len pr : Nat} (hW : ∀ t, t < 8 → W t ≤ 9) : ∀ l, sv_pt (sv_ev W own T len pr l) ≤ 27 * l.length := by
  intro l
  induction l with
  | nil => exact Nat.le_refl _
  | cons t l ih =>
    show sv_pt (sv_st W own T len pr t (sv_ev W own T len pr l)) ≤ _
    generalize sv_ev W own T len pr l = E at ih
    rw [List.length_cons]
    unfold sv_st
    by_cases hw : t < 8
    · rw [if_pos hw]
      have := hW t hw
      show 3 * W t + 0 + sv_pt E ≤ _
      omega
    · rw [if_neg hw]
      by_cases hr : 1000 ≤ t
      · rw [if_pos hr]
        show 3 * 0 + 0 + sv_pt E ≤ _
        omega
      · rw [if_neg hr]
        match E, ih with
        | a :: b :: r, ih =>
          show 3 * (sv_j own t a b).2.2.1 + (sv_j own t a b).2.2.2.2 + sv_pt r ≤ _
          have h1 : sv_pt (a :: b :: r) = 3 * a.2.2.1 + a.2.2.2.2 + (3 * b.2.2.1 + b.2.2.2.2 + sv_pt r) := rfl
          have h2 := sv_ss_le own a
          have h3 := sv_ss_le own b
          unfold sv_j
          by_cases h11 : 11 ≤ t
          · rw [if_pos h11]
            show 3 * (b.2.2.1 + a.2.2.1) + 0 + sv_pt r ≤ _
            omega
          · rw [if_neg h11]
            show 3 * 0 + (if t = 10 then sv_ss own a else sv_ss own a + sv_ss own b) + sv_pt r ≤ _
            split <;> omega
        | [a], ih => show sv_pt [a] ≤ _; omega
        | [], ih => show sv_pt [] ≤ _; omega
theorem sv_pt_mem {v : sv_T} : ∀ {st : List sv_T}, v ∈ st → 3 * v.2.2.1 + v.2.2.2.2 ≤ sv_pt st := by
  intro st
  induction st with
  | nil => intro h; exact absurd h (by simp)
  | cons x r ih =>
    intro h
    show _ ≤ 3 * x.2.2.1 + x.2.2.2.2 + sv_pt r
    rcases List.mem_cons.mp h with h | h
    · subst h; omega
    · have := ih h; omega
/-! what matches does not hang on weights -/
def sv_e2 : List sv_T → List sv_T → Prop
  | [], [] => True
  | a :: x, b :: y => (a.1 = b.1 ∧ a.2.1 = b.2.1 ∧ sv_mt a = sv_mt b) ∧ sv_e2 x y
  | _, _ => False
theorem sv_ev_e2 {W V : Nat → Nat} {own own' : Nat} {T : Nat → Int32} {len pr : Nat} : ∀ l, sv_e2 (sv_ev W own T len pr l) (sv_ev V own' T len pr l) := by
  intro l
  induction l with
  | nil => exact trivial
  | cons t l ih =>
    show sv_e2 (sv_st W own T len pr t (sv_ev W own T len pr l)) (sv_st V own' T len pr t (sv_ev V own' T len pr l))
    generalize sv_ev W own T len pr l = E at ih
    generalize sv_ev V own' T len pr l = F at ih
    unfold sv_st
    by_cases hw : t < 8
    · rw [if_pos hw, if_pos hw]; exact ⟨⟨rfl, rfl, rfl⟩, ih⟩
    · rw [if_neg hw, if_neg hw]
      by_cases hr : 1000 ≤ t
      · rw [if_pos hr, if_pos hr]; exact ⟨⟨rfl, rfl, rfl⟩, ih⟩
      · rw [if_neg hr, if_neg hr]
        match E, F, ih with
        | a :: b :: r, c :: d :: s, ih =>
          obtain ⟨⟨h1, h2, h3⟩, ⟨h4, h5, h6⟩, h7⟩ := ih
          refine ⟨?_, h7⟩
          unfold sv_j
          by_cases h11 : 11 ≤ t
          · rw [if_pos h11, if_pos h11, h2, h5]
            exact ⟨rfl, rfl, rfl⟩
          · rw [if_neg h11, if_neg h11, h3, h6]
            exact ⟨rfl, rfl, rfl⟩
        | [a], [c], ih => exact ih
        | [], [], ih => exact ih
        | a :: b :: r, [c], ih => exact absurd ih.2 (by simp [sv_e2])
        | [a], c :: d :: s, ih => exact absurd ih.2 (by simp [sv_e2])
        | [], _ :: _, ih => exact absurd ih (by simp [sv_e2])
        | _ :: _, [], ih => exact absurd ih (by simp [sv_e2])
/-! the two queries of like -/
def sv_lx (ws : List Nat) : List Nat := List.replicate (ws.length - 1) 9 ++ ws
def sv_ly : List Nat → List Nat
  | [] => []
  | [w] => [w]
  | w :: v :: ws => 9 :: w :: sv_ly (v :: ws)
def sv_wv (W : Nat → Nat) (T : Nat → Int32) (len t : Nat) : sv_T := (true, sv_wd T len t, W t, false, 0)
def sv_am (W : Nat → Nat) (T : Nat → Int32) (len : Nat) : List Nat → Bool
  | [] => false
  | w :: ws => sv_mt (sv_wv W T len w) || sv_am W T len ws
def sv_as (W : Nat → Nat) (own : Nat) (T : Nat → Int32) (len : Nat) : List Nat → Nat
  | [] => 0
  | w :: ws => sv_ss own (sv_wv W T len w) + sv_as W own T len ws
theorem sv_ly_ev {W : Nat → Nat} {own : Nat} {T : Nat → Int32} {len pr : Nat} : ∀ (ws : List Nat), ws ≠ [] → (∀ w, w ∈ ws → w < 8) →
    ∃ v, sv_ev W own T len pr (sv_ly ws) = [v] ∧ sv_mt v = sv_am W T len ws ∧ sv_ss own v = sv_as W own T len ws
  | [], h, _ => absurd rfl h
  | [w], _, h => by
    refine ⟨sv_wv W T len w, ?_, ?_, ?_⟩
    · show sv_st W own T len pr w [] = _
      unfold sv_st
      rw [if_pos (h w List.mem_cons_self)]; rfl
    · show _ = (sv_mt (sv_wv W T len w) || false)
      rw [Bool.or_false]
    · show _ = sv_ss own (sv_wv W T len w) + 0
      rfl
  | w :: x :: ws, _, h => by
    obtain ⟨v, h1, h2, h3⟩ := sv_ly_ev (W := W) (own := own) (T := T) (len := len) (pr := pr) (x :: ws) (by simp) (fun y hy => h y (List.mem_cons_of_mem _ hy))
    refine ⟨sv_j own 9 (sv_wv W T len w) v, ?_, ?_, ?_⟩
    · show sv_st W own T len pr 9 (sv_st W own T len pr w (sv_ev W own T len pr (sv_ly (x :: ws)))) = _
      rw [h1]
      have : sv_st W own T len pr w [v] = sv_wv W T len w :: [v] := by
        unfold sv_st
        rw [if_pos (h w List.mem_cons_self)]; rfl
      rw [this]; rfl
    · show (sv_mt (sv_wv W T len w) || sv_mt v) = _
      rw [h2]; rfl
    · show sv_ss own (sv_wv W T len w) + sv_ss own v = _
      rw [h3]; rfl
theorem sv_rep_ev {W : Nat → Nat} {own : Nat} {T : Nat → Int32} {len pr : Nat} (l : List Nat) : ∀ m, sv_ev W own T len pr (List.replicate m 9 ++ l) = Nat.repeat (sv_st W own T len pr 9) m (sv_ev W own T len pr l)
  | 0 => rfl
  | m + 1 => by
    show sv_st W own T len pr 9 (sv_ev W own T len pr (List.replicate m 9 ++ l)) = _
    rw [sv_rep_ev l m]; rfl
theorem sv_rep_sh {W : Nat → Nat} {own : Nat} {T : Nat → Int32} {len pr : Nat} : ∀ m st, Nat.repeat (sv_st W own T len pr 9) (m + 1) st = Nat.repeat (sv_st W own T len pr 9) m (sv_st W own T len pr 9 st)
  | 0, _ => rfl
  | m + 1, st => by
    show sv_st W own T len pr 9 (Nat.repeat (sv_st W own T len pr 9) (m + 1) st) = _
    rw [sv_rep_sh m st]; rfl
theorem sv_ws_ev {W : Nat → Nat} {own : Nat} {T : Nat → Int32} {len pr : Nat} : ∀ (ws : List Nat), (∀ w, w ∈ ws → w < 8) → sv_ev W own T len pr ws = ws.map (sv_wv W T len)
  | [], _ => rfl
  | w :: ws, h => by
    show sv_st W own T len pr w (sv_ev W own T len pr ws) = _
    rw [sv_ws_ev ws (fun y hy => h y (List.mem_cons_of_mem _ hy))]
    unfold sv_st
    rw [if_pos (h w List.mem_cons_self)]; rfl
theorem sv_fold {W : Nat → Nat} {own : Nat} {T : Nat → Int32} {len pr : Nat} : ∀ (ws : List Nat) (v : sv_T),
    ∃ r, Nat.repeat (sv_st W own T len pr 9) ws.length (v :: ws.map (sv_wv W T len)) = [r] ∧ sv_mt r = (sv_mt v || sv_am W T len ws) ∧ sv_ss own r = sv_ss own v + sv_as W own T len ws
  | [], v => ⟨v, rfl, by show _ = (sv_mt v || false); rw [Bool.or_false], rfl⟩
  | w :: ws, v => by
    obtain ⟨r, h1, h2, h3⟩ := sv_fold (W := W) (own := own) (T := T) (len := len) (pr := pr) ws (sv_j own 9 v (sv_wv W T len w))
    refine ⟨r, ?_, ?_, ?_⟩
    · rw [List.length_cons, sv_rep_sh]
      exact h1
    · rw [h2]
      show ((sv_mt v || sv_mt (sv_wv W T len w)) || _) = (sv_mt v || (sv_mt (sv_wv W T len w) || _))
      rw [Bool.or_assoc]
    · rw [h3]
      show (sv_ss own v + sv_ss own (sv_wv W T len w)) + _ = sv_ss own v + (sv_ss own (sv_wv W T len w) + _)
      rw [Nat.add_assoc]
theorem sv_lx_ev {W : Nat → Nat} {own : Nat} {T : Nat → Int32} {len pr : Nat} (ws : List Nat) (h0 : ws ≠ []) (h : ∀ w, w ∈ ws → w < 8) :
    ∃ v, sv_ev W own T len pr (sv_lx ws) = [v] ∧ sv_mt v = sv_am W T len ws ∧ sv_ss own v = sv_as W own T len ws := by
  cases ws with
  | nil => exact absurd rfl h0
  | cons w ws =>
    obtain ⟨r, h1, h2, h3⟩ := sv_fold (W := W) (own := own) (T := T) (len := len) (pr := pr) ws (sv_wv W T len w)
    refine ⟨r, ?_, h2, h3⟩
    unfold sv_lx
    rw [sv_rep_ev, sv_ws_ev _ h]
    exact h1
/-! both are expressions -/
theorem sv_ws_b : ∀ (ws : List Nat), (∀ w, w ∈ ws → w < 8) → sq_b ws = some (List.replicate ws.length true)
  | [], _ => rfl
  | w :: ws, h => by
    show sq_bs w (sq_b ws) = _
    rw [sv_ws_b ws (fun y hy => h y (List.mem_cons_of_mem _ hy))]
    have hw := h w List.mem_cons_self
    unfold sq_bs
    simp only
    rw [if_neg (by omega), decide_eq_true hw]; rfl
theorem sv_9_b (a b : Bool) (r : List Bool) : sq_bs 9 (some (a :: b :: r)) = some (false :: r) := rfl
theorem sv_lx_b (ws : List Nat) (h0 : ws ≠ []) (h : ∀ w, w ∈ ws → w < 8) : ∃ v, sq_b (sv_lx ws) = some [v] := by
  cases ws with
  | nil => exact absurd rfl h0
  | cons w ws =>
    have key : ∀ (m k : Nat), m ≤ k → ∃ v, sq_b (List.replicate m 9 ++ (w :: ws)) = sq_b (List.replicate m 9 ++ (w :: ws)) ∧ (ws.length = k → sq_b (List.replicate m 9 ++ (w :: ws)) = some (v :: List.replicate (k - m) true)) := by
      intro m
      induction m with
      | zero =>
        intro k _
        refine ⟨true, rfl, ?_⟩
        intro hk
        show sq_b (w :: ws) = _
        rw [sv_ws_b _ h, List.length_cons, hk]; rfl
      | succ m ih =>
        intro k hm
        obtain ⟨v, _, hv⟩ := ih k (by omega)
        refine ⟨false, rfl, ?_⟩
        intro hk
        show sq_bs 9 (sq_b (List.replicate m 9 ++ (w :: ws))) = _
        rw [hv hk]
        have e : k - m = (k - (m + 1)) + 1 := by omega
        rw [e, List.replicate_succ]
        exact sv_9_b _ _ _
    obtain ⟨v, _, hv⟩ := key ws.length ws.length (Nat.le_refl _)
    refine ⟨v, ?_⟩
    have := hv rfl
    rw [Nat.sub_self] at this
    exact this
theorem sv_ly_b : ∀ (ws : List Nat), ws ≠ [] → (∀ w, w ∈ ws → w < 8) → ∃ v, sq_b (sv_ly ws) = some [v]
  | [], h, _ => absurd rfl h
  | [w], _, h => by
    refine ⟨true, ?_⟩
    exact sv_ws_b [w] h
  | w :: x :: ws, _, h => by
    obtain ⟨v, h1⟩ := sv_ly_b (x :: ws) (by simp) (fun y hy => h y (List.mem_cons_of_mem _ hy))
    refine ⟨false, ?_⟩
    show sq_bs 9 (sq_bs w (sq_b (sv_ly (x :: ws)))) = _
    rw [h1]
    have hw := h w List.mem_cons_self
    have : sq_bs w (some [v]) = some [true, v] := by
      unfold sq_bs
      simp only
      rw [if_neg (by omega), decide_eq_true hw]
    rw [this]
    exact sv_9_b _ _ _
theorem sv_ly_tk : ∀ (ws : List Nat), (∀ w, w ∈ ws → w < 8) → sv_tks (sv_ly ws)
  | [], _ => fun t ht => absurd ht (by simp [sv_ly])
  | [w], h => fun t ht => Or.inl (by have := h t ht; omega)
  | w :: x :: ws, h => by
    intro t ht
    have ht' : t ∈ 9 :: w :: sv_ly (x :: ws) := ht
    rcases List.mem_cons.mp ht' with h1 | h1
    · exact Or.inl (by omega)
    · rcases List.mem_cons.mp h1 with h2 | h2
      · have := h w List.mem_cons_self
        exact Or.inl (by omega)
      · exact sv_ly_tk (x :: ws) (fun y hy => h y (List.mem_cons_of_mem _ hy)) t h2
theorem sv_lx_tk (ws : List Nat) (h : ∀ w, w ∈ ws → w < 8) : sv_tks (sv_lx ws) := by
  intro t ht
  rcases List.mem_append.mp ht with h1 | h1
  · have := List.eq_of_mem_replicate h1
    exact Or.inl (by omega)
  · have := h t h1
    exact Or.inl (by omega)
theorem sv_ly_len : ∀ (ws : List Nat), ws ≠ [] → (sv_ly ws).length + 1 = 2 * ws.length
  | [], h => absurd rfl h
  | [w], _ => rfl
  | w :: x :: ws, _ => by
    have := sv_ly_len (x :: ws) (by simp)
    show (sv_ly (x :: ws)).length + 1 + 1 + 1 = 2 * ((x :: ws).length + 1)
    omega
theorem sv_lx_len (ws : List Nat) (h : ws ≠ []) : (sv_lx ws).length + 1 = 2 * ws.length := by
  unfold sv_lx
  rw [List.length_append, List.length_replicate]
  have : 0 < ws.length := List.length_pos_iff.mpr h
  omega
end
section
/-! binary digits -/
def sd_dg (v : Nat) : Nat := if h : v = 0 then 0 else sd_dg (v / 2) + 1
termination_by v
decreasing_by omega
theorem sd_dg_0 : sd_dg 0 = 0 := by rw [sd_dg]; rfl
theorem sd_dg_s {v : Nat} (h : 0 < v) : sd_dg v = sd_dg (v / 2) + 1 := by
  rw [sd_dg, dif_neg (by omega)]
theorem sd_dg_iff : ∀ d v, 0 < v / 2 ^ d ↔ d < sd_dg v
  | 0, v => by
    rw [Nat.pow_zero, Nat.div_one]
    rcases Nat.eq_zero_or_pos v with h | h
    · subst h; rw [sd_dg_0]
    · rw [sd_dg_s h]; omega
  | d + 1, v => by
    have e : v / 2 ^ (d + 1) = v / 2 / 2 ^ d := by
      rw [Nat.div_div_eq_div_mul, Nat.pow_succ, Nat.mul_comm]
    rw [e, sd_dg_iff d (v / 2)]
    rcases Nat.eq_zero_or_pos v with h | h
    · subst h
      simp only [Nat.zero_div, sd_dg_0]
      omega
    · rw [sd_dg_s h]; omega
theorem sd_dg_le {v d : Nat} (h : v < 2 ^ d) : sd_dg v ≤ d := by
  have h1 := sd_dg_iff d v
  rw [Nat.div_eq_of_lt h] at h1
  omega
/-! arrays that are moved -/
def sd_dr (a : Nat → Int32) (b m : Nat) : Nat → Int32 := fun j => if b ≤ j ∧ j < b + m then a (j + 1) else a j
theorem sd_dr_0 (a : Nat → Int32) (b : Nat) : sd_dr a b 0 = a := by
  funext j; unfold sd_dr; rw [if_neg (by omega)]
theorem sd_dr_s (a : Nat → Int32) (b m : Nat) : upd (sd_dr a b m) (b + m) (sd_dr a b m (b + m + 1)) = sd_dr a b (m + 1) := by
  funext j
  unfold upd
  by_cases h : j = b + m
  · subst h
    rw [if_pos rfl]
    unfold sd_dr
    rw [if_neg (by omega), if_pos (by omega)]
  · rw [if_neg h]
    unfold sd_dr
    by_cases h2 : b ≤ j ∧ j < b + m
    · rw [if_pos h2, if_pos (by omega)]
    · rw [if_neg h2, if_neg (by omega)]
def sd_cy (a : Nat → Int32) (b : Nat) (s : Nat → Int32) (c m : Nat) : Nat → Int32 := fun j => if b ≤ j ∧ j < b + m then s (c + (j - b)) else a j
theorem sd_cy_0 (a : Nat → Int32) (b : Nat) (s : Nat → Int32) (c : Nat) : sd_cy a b s c 0 = a := by
  funext j; unfold sd_cy; rw [if_neg (by omega)]
theorem sd_cy_s (a : Nat → Int32) (b : Nat) (s : Nat → Int32) (c m : Nat) : upd (sd_cy a b s c m) (b + m) (s (c + m)) = sd_cy a b s c (m + 1) := by
  funext j
  unfold upd
  by_cases h : j = b + m
  · subst h
    rw [if_pos rfl]
    unfold sd_cy
    rw [if_pos (by omega)]
    congr 1; omega
  · rw [if_neg h]
    unfold sd_cy
    by_cases h2 : b ≤ j ∧ j < b + m
    · rw [if_pos h2, if_pos (by omega)]
    · rw [if_neg h2, if_neg (by omega)]
theorem sd_cy_in {a : Nat → Int32} {b : Nat} {s : Nat → Int32} {c m i : Nat} (h : i < m) : sd_cy a b s c m (b + i) = s (c + i) := by
  unfold sd_cy; rw [if_pos (by omega)]; congr 1; omega
theorem sd_cy_out {a : Nat → Int32} {b : Nat} {s : Nat → Int32} {c m j : Nat} (h : j < b ∨ b + m ≤ j) : sd_cy a b s c m j = a j := by
  unfold sd_cy; rw [if_neg (by omega)]
/-- the text of slot f laid into slot t, in place -/
theorem sd_cy_mv (a : Nat → Int32) (f t i : Nat) (hi : i < 12) : sd_cy a (12 * t) a (12 * f) i (12 * f + i) = a (12 * f + i) := by
  unfold sd_cy
  by_cases h : 12 * t ≤ 12 * f + i ∧ 12 * f + i < 12 * t + i
  · rw [if_pos h]
    have : f = t := by omega
    subst this
    congr 1; omega
  · rw [if_neg h]
def sd_hs (T : Nat → Int32) (b : Nat) (w : Int32) : Nat → Bool
  | 0 => false
  | n + 1 => sd_hs T b w n || decide (T (b + n) = w)
theorem sd_hs_iff {T : Nat → Int32} {b : Nat} {w : Int32} : ∀ n, sd_hs T b w n = true ↔ ∃ i, i < n ∧ T (b + i) = w
  | 0 => ⟨fun h => absurd (show false = true from h) (by decide), fun ⟨i, h, _⟩ => absurd h (by omega)⟩
  | n + 1 => by
    show (sd_hs T b w n || decide (T (b + n) = w)) = true ↔ _
    rw [Bool.or_eq_true_iff, sd_hs_iff n, decide_eq_true_iff]
    constructor
    · rintro (⟨i, h1, h2⟩ | h)
      · exact ⟨i, by omega, h2⟩
      · exact ⟨n, by omega, h⟩
    · rintro ⟨i, h1, h2⟩
      rcases Nat.lt_or_ge i n with h3 | h3
      · exact Or.inl ⟨i, h3, h2⟩
      · have : i = n := by omega
        subst this
        exact Or.inr h2
/-! documents: number, price, length, text, segment, deleted -/
abbrev sd_D : Type := (Nat → Int32) × (Nat → Int32) × (Nat → Int32) × (Nat → Int32) × (Nat → Int32) × (Nat → Int32)
def sd_cp (D : sd_D) (f t : Nat) : sd_D :=
  (upd D.1 t (D.1 f), upd D.2.1 t (D.2.1 f), upd D.2.2.1 t (D.2.2.1 f), sd_cy D.2.2.2.1 (12 * t) D.2.2.2.1 (12 * f) 12, upd D.2.2.2.2.1 t (D.2.2.2.2.1 f), upd D.2.2.2.2.2 t (D.2.2.2.2.2 f))
def sd_js (fr : Int32) (d : Nat) (s : sd_D × Nat × Nat) : sd_D × Nat × Nat :=
  if fr ≤ s.1.2.2.2.2.1 d then
    (if s.1.2.2.2.2.2 d = 0 then
      (((sd_cp s.1 d s.2.1).1, (sd_cp s.1 d s.2.1).2.1, (sd_cp s.1 d s.2.1).2.2.1, (sd_cp s.1 d s.2.1).2.2.2.1, upd (sd_cp s.1 d s.2.1).2.2.2.2.1 s.2.1 fr, (sd_cp s.1 d s.2.1).2.2.2.2.2), s.2.1 + 1, s.2.2 + 1)
    else s)
  else (sd_cp s.1 d s.2.1, s.2.1 + 1, s.2.2)
def sd_jn (fr : Int32) (D : sd_D) : Nat → sd_D × Nat × Nat
  | 0 => (D, 0, 0)
  | d + 1 => sd_js fr d (sd_jn fr D d)
/-- what holds of every cell -/
def sd_ok (D : sd_D) : Prop :=
  (∀ j, ∃ n, n < 2 ^ 31 ∧ D.1 j = nI n) ∧ (∀ j, ∃ n, n < 100 ∧ D.2.1 j = nI n) ∧ (∀ j, ∃ n, n ≤ 12 ∧ D.2.2.1 j = nI n) ∧ (∀ j, D.2.2.2.2.2 j = 0 ∨ D.2.2.2.2.2 j = 1)
theorem sd_upd_all {Q : Int32 → Prop} {a : Nat → Int32} {t : Nat} {x : Int32} (h : ∀ j, Q (a j)) (hx : Q x) : ∀ j, Q (upd a t x j) := by
  intro j
  unfold upd
  split
  · exact hx
  · exact h j
theorem sd_ok_cp {D : sd_D} (h : sd_ok D) (f t : Nat) : sd_ok (sd_cp D f t) :=
  ⟨sd_upd_all (Q := fun x => ∃ n, n < 2 ^ 31 ∧ x = nI n) h.1 (h.1 f), sd_upd_all (Q := fun x => ∃ n, n < 100 ∧ x = nI n) h.2.1 (h.2.1 f),
   sd_upd_all (Q := fun x => ∃ n, n ≤ 12 ∧ x = nI n) h.2.2.1 (h.2.2.1 f), sd_upd_all (Q := fun x => x = 0 ∨ x = 1) h.2.2.2 (h.2.2.2 f)⟩
theorem sd_ok_js {s : sd_D × Nat × Nat} (h : sd_ok s.1) (fr : Int32) (d : Nat) : sd_ok (sd_js fr d s).1 := by
  unfold sd_js
  split
  · split
    · exact sd_ok_cp h d s.2.1
    · exact h
  · exact sd_ok_cp h d s.2.1
theorem sd_ok_jn {D : sd_D} (h : sd_ok D) (fr : Int32) : ∀ d, sd_ok (sd_jn fr D d).1
  | 0 => h
  | d + 1 => sd_ok_js (sd_ok_jn h fr d) fr d
/-- what the joining keeps: n places filled, `l` of them joined -/
def sd_J (S : Nat → Int32) (f d : Nat) (s : sd_D × Nat × Nat) : Prop :=
  s.2.1 ≤ d ∧ (∀ j, d ≤ j → s.1.2.2.2.2.1 j = S j) ∧ (∀ j, j < s.2.1 → ∃ c, c ≤ f ∧ s.1.2.2.2.2.1 j = nI c) ∧
  (∀ c, c ≤ f → sg_cn (fun j => decide (s.1.2.2.2.2.1 j < nI c)) s.2.1 = sg_cn (fun j => decide (S j < nI c)) d) ∧
  s.2.1 = sg_cn (fun j => decide (s.1.2.2.2.2.1 j < nI f)) s.2.1 + s.2.2
theorem sd_cn_upd {S : Nat → Int32} {n : Nat} {x : Int32} (P : Int32 → Bool) : sg_cn (fun j => P (upd S n x j)) (n + 1) = sg_cn (fun j => P (S j)) n + (if P x = true then 1 else 0) := by
  show sg_cn (fun j => P (upd S n x j)) n + (if P (upd S n x n) = true then 1 else 0) = _
  rw [pk_us, sg_cn_congr (q := fun j => P (S j)) n (fun i hi => by show P (upd S n x i) = P (S i); rw [pk_un (by omega)])]
theorem sd_J_s {S : Nat → Int32} {f d : Nat} {s : sd_D × Nat × Nat} (hf : f < 2 ^ 31) (hS : ∃ c, c < 2 ^ 31 ∧ S d = nI c) (h : sd_J S f d s) : sd_J S f (d + 1) (sd_js (nI f) d s) := by
  obtain ⟨h1, h2, h3, h4, h5⟩ := h
  obtain ⟨c, hc, ec⟩ := hS
  have ed : s.1.2.2.2.2.1 d = nI c := by rw [h2 d (Nat.le_refl _), ec]
  unfold sd_js
  rw [ed]
  by_cases hin : nI f ≤ nI c
  · rw [if_pos hin]
    have hfc : f ≤ c := (nI_leI hf hc).mp hin
    have hS0 : ∀ c', c' ≤ f → decide (S d < nI c') = false := by
      intro c' hc'
      rw [ec]
      exact decide_eq_false (fun z => by have := (nI_ltI hc (by omega)).mp z; omega)
    by_cases hd : s.1.2.2.2.2.2 d = 0
    · rw [if_pos hd]
      have eS : upd (sd_cp s.1 d s.2.1).2.2.2.2.1 s.2.1 (nI f) = upd s.1.2.2.2.2.1 s.2.1 (nI f) := by
        funext j
        show upd (upd s.1.2.2.2.2.1 s.2.1 _) s.2.1 (nI f) j = _
        unfold upd
        by_cases hj : j = s.2.1
        · rw [if_pos hj, if_pos hj]
        · rw [if_neg hj, if_neg hj, if_neg hj]
      rw [eS]
      refine ⟨by show s.2.1 + 1 ≤ d + 1; omega, ?_, ?_, ?_, ?_⟩
      · intro j hj
        show upd s.1.2.2.2.2.1 s.2.1 (nI f) j = S j
        rw [pk_un (by omega), h2 j (by omega)]
      · intro j hj
        show ∃ c, c ≤ f ∧ upd s.1.2.2.2.2.1 s.2.1 (nI f) j = nI c
        rcases Nat.lt_or_ge j s.2.1 with hj2 | hj2
        · rw [pk_un (by omega)]; exact h3 j hj2
        · have : j = s.2.1 := by have : j < s.2.1 + 1 := hj; omega
          subst this
          rw [pk_us]; exact ⟨f, Nat.le_refl _, rfl⟩
      · intro c' hc'
        show sg_cn (fun j => decide (upd s.1.2.2.2.2.1 s.2.1 (nI f) j < nI c')) (s.2.1 + 1) = sg_cn (fun j => decide (S j < nI c')) d + (if decide (S d < nI c') = true then 1 else 0)
        rw [sd_cn_upd (fun x => decide (x < nI c')), h4 c' hc', hS0 c' hc', decide_eq_false (fun z => by have := (nI_ltI hf (by omega)).mp z; omega)]
      · show s.2.1 + 1 = sg_cn (fun j => decide (upd s.1.2.2.2.2.1 s.2.1 (nI f) j < nI f)) (s.2.1 + 1) + (s.2.2 + 1)
        rw [sd_cn_upd (fun x => decide (x < nI f)), decide_eq_false (fun z => by have := (nI_ltI hf hf).mp z; omega)]
        show s.2.1 + 1 = _ + 0 + (s.2.2 + 1)
        omega
    · rw [if_neg hd]
      refine ⟨by omega, fun j hj => h2 j (by omega), h3, ?_, h5⟩
      intro c' hc'
      show _ = sg_cn (fun j => decide (S j < nI c')) d + (if decide (S d < nI c') = true then 1 else 0)
      rw [h4 c' hc', hS0 c' hc']; rfl
  · rw [if_neg hin]
    have hcf : c < f := by
      rcases Nat.lt_or_ge c f with h | h
      · exact h
      · exact absurd ((nI_leI hf hc).mpr h) hin
    refine ⟨by show s.2.1 + 1 ≤ d + 1; omega, ?_, ?_, ?_, ?_⟩
    · intro j hj
      show upd s.1.2.2.2.2.1 s.2.1 (s.1.2.2.2.2.1 d) j = S j
      rw [pk_un (by omega), h2 j (by omega)]
    · intro j hj
      show ∃ c, c ≤ f ∧ upd s.1.2.2.2.2.1 s.2.1 (s.1.2.2.2.2.1 d) j = nI c
      rcases Nat.lt_or_ge j s.2.1 with hj2 | hj2
      · rw [pk_un (by omega)]; exact h3 j hj2
      · have : j = s.2.1 := by have : j < s.2.1 + 1 := hj; omega
        subst this
        rw [pk_us]; exact ⟨c, by omega, ed⟩
    · intro c' hc'
      show sg_cn (fun j => decide (upd s.1.2.2.2.2.1 s.2.1 (s.1.2.2.2.2.1 d) j < nI c')) (s.2.1 + 1) = sg_cn (fun j => decide (S j < nI c')) d + (if decide (S d < nI c') = true then 1 else 0)
      rw [sd_cn_upd (fun x => decide (x < nI c')), h4 c' hc', ed, ec]
    · show s.2.1 + 1 = sg_cn (fun j => decide (upd s.1.2.2.2.2.1 s.2.1 (s.1.2.2.2.2.1 d) j < nI f)) (s.2.1 + 1) + s.2.2
      rw [sd_cn_upd (fun x => decide (x < nI f)), ed, decide_eq_true ((nI_ltI hc hf).mpr hcf)]
      show s.2.1 + 1 = _ + 1 + s.2.2
      omega
theorem sd_J_all {D : sd_D} {f : Nat} (hf : f < 2 ^ 31) : ∀ d, (∀ j, j < d → ∃ c, c < 2 ^ 31 ∧ D.2.2.2.2.1 j = nI c) → sd_J D.2.2.2.2.1 f d (sd_jn (nI f) D d)
  | 0, _ => ⟨Nat.le_refl _, fun _ _ => rfl, fun j h => absurd h (Nat.not_lt_zero j), fun _ _ => rfl, rfl⟩
  | d + 1, h => sd_J_s hf (h d (by omega)) (sd_J_all hf d (fun j hj => h j (by omega)))
/-- the row of documents: st of them stored, the rest in the buffer -/
def sd_I (S : Nat → Int32) (st dc sg : Nat) : Prop :=
  st ≤ dc ∧ dc ≤ 32 ∧ (∀ d, d < st → ∃ c, c < sg ∧ S d = nI c) ∧ (∀ d, st ≤ d → d < dc → S d = -1) ∧ (∀ c, c ≤ sg → c ≤ sg_cn (fun j => decide (S j < nI c)) st)
theorem sd_I_sg {S : Nat → Int32} {st dc sg : Nat} (h : sd_I S st dc sg) : sg ≤ st := Nat.le_trans (h.2.2.2.2 sg (Nat.le_refl _)) (sg_cn_le _ _)
theorem sd_I_join {D : sd_D} {dc sg f : Nat} (h : sd_I D.2.2.2.2.1 dc dc sg) (hf : f ≤ sg) :
    sd_I (sd_jn (nI f) D dc).1.2.2.2.2.1 (sd_jn (nI f) D dc).2.1 (sd_jn (nI f) D dc).2.1 (if 0 < (sd_jn (nI f) D dc).2.2 then f + 1 else f) ∧ (sd_jn (nI f) D dc).2.1 ≤ dc := by
  have hsg := sd_I_sg h
  obtain ⟨h1, h2, h3, h4, h5⟩ := h
  obtain ⟨g1, g2, g3, g4, g5⟩ := sd_J_all (D := D) (f := f) (by omega) dc (fun j hj => by
    obtain ⟨c, hc, e⟩ := h3 j hj
    exact ⟨c, by omega, e⟩)
  generalize sd_jn (nI f) D dc = s at g1 g2 g3 g4 g5
  refine ⟨⟨Nat.le_refl _, by omega, ?_, fun d a b => absurd b (by omega), ?_⟩, g1⟩
  · intro d hd
    obtain ⟨c, hc, e⟩ := g3 d hd
    by_cases hl : 0 < s.2.2
    · rw [if_pos hl]; exact ⟨c, by omega, e⟩
    · rw [if_neg hl]
      refine ⟨c, ?_, e⟩
      have g6 : sg_cn (fun j => decide (s.1.2.2.2.2.1 j < nI f)) s.2.1 = s.2.1 := by omega
      rcases Nat.lt_or_ge c f with h7 | h7
      · exact h7
      · have h8 : sg_cn (fun j => decide (s.1.2.2.2.2.1 j < nI f)) s.2.1 < sg_cn (fun _ => true) s.2.1 :=
          sg_cn_lt s.2.1 d (fun _ _ _ => rfl) hd rfl (by show decide (s.1.2.2.2.2.1 d < nI f) = false; rw [e]; exact decide_eq_false (fun z => by have := (nI_ltI (by omega) (by omega)).mp z; omega))
        have h9 := sg_cn_le (fun _ => true) s.2.1
        omega
  · intro c hc
    by_cases hl : 0 < s.2.2
    · rw [if_pos hl] at hc
      rcases Nat.lt_or_ge f c with h7 | h7
      · have e : c = f + 1 := by omega
        subst e
        have g7 : sg_cn (fun j => decide (s.1.2.2.2.2.1 j < nI (f + 1))) s.2.1 = s.2.1 := sg_cn_all _ (fun i hi => by
          obtain ⟨c, hc, e⟩ := g3 i hi
          show decide (s.1.2.2.2.2.1 i < nI (f + 1)) = true
          rw [e]
          exact decide_eq_true ((nI_ltI (by omega) (by omega)).mpr (by omega)))
        have g8 := g4 f (Nat.le_refl _)
        have g9 := h5 f hf
        omega
      · rw [g4 c h7]; exact h5 c (by omega)
    · rw [if_neg hl] at hc
      rw [g4 c hc]; exact h5 c (by omega)
end
section
def sr_H (a : Nat → Int32) (b : Nat) (q : List Nat) : Prop := ∀ i, i < q.length → a (b + i) = nI (q.getD i 0)
def sr_Q (q : List Nat) (pq tk ln : Nat → Int32) : Prop := q.length ≤ 12 ∧ sv_tks q ∧ ln 0 = nI q.length ∧ sr_H pq 0 q ∧ sr_H tk 0 q
def sr_W (W : Nat → List Nat) (wq wl tk ln : Nat → Int32) : Prop :=
  ∀ w, w < 4 → (W w).length ≤ 12 ∧ sv_tks (W w) ∧ (W w ≠ [] → ∃ v, sq_b (W w) = some [v]) ∧ wl w = nI (W w).length ∧ ln (1 + w) = nI (W w).length ∧ sr_H wq (12 * w) (W w) ∧ sr_H tk (16 * (1 + w)) (W w)
def sr_N (NC : Nat → Int32) : Prop := ∀ w, w < 4 → ∃ c, c ≤ 8 ∧ NC w = nI c
def sr_K (hc : Nat) (hN hS kN : Nat → Int32) (kS : Nat → Int64) : Prop := hc ≤ 10 ∧ ∀ p, p < hc → hN p = kN p ∧ hS p = (kS p).toInt32
def sr_S (a b : Nat → Int32) : Prop := ∀ k, k < 10 → a k = b k
end
section
/-! the stacks of both sides -/
def sx_E (own : Nat) (pM pS pW pP : Nat → Int32) (p : Nat) (v : sv_T) : Prop :=
  pM p = sg_B (sv_mt v) ∧ pS p = nI (sv_ss own v) ∧ (v.1 = true → pW p = nI v.2.2.1 ∧ ∀ i, i < 12 → pP (12 * p + i) = v.2.1 i)
def sx_R (own : Nat) (pM pS pW pP : Nat → Int32) : List sv_T → Prop
  | [] => True
  | v :: r => sx_E own pM pS pW pP r.length v ∧ sx_R own pM pS pW pP r
def sx_F (n : Nat) (pM pS pW pP pM' pS' pW' pP' : Nat → Int32) : Prop :=
  ∀ p, p < n → pM' p = pM p ∧ pS' p = pS p ∧ pW' p = pW p ∧ ∀ i, i < 12 → pP' (12 * p + i) = pP (12 * p + i)
theorem sx_R_fr {own : Nat} {pM pS pW pP pM' pS' pW' pP' : Nat → Int32} : ∀ {st : List sv_T}, sx_F st.length pM pS pW pP pM' pS' pW' pP' → sx_R own pM pS pW pP st → sx_R own pM' pS' pW' pP' st
  | [], _, _ => trivial
  | v :: r, f, h => by
    obtain ⟨h1, h2⟩ := h
    refine ⟨?_, sx_R_fr (fun p hp => f p (by rw [List.length_cons]; omega)) h2⟩
    obtain ⟨f1, f2, f3, f4⟩ := f r.length (by rw [List.length_cons]; omega)
    obtain ⟨e1, e2, e3⟩ := h1
    refine ⟨by rw [f1, e1], by rw [f2, e2], fun hv => ⟨by rw [f3, (e3 hv).1], fun i hi => by rw [f4 i hi, (e3 hv).2 i hi]⟩⟩
def sy_E (iS ma sp wt : Nat → Int32) (sc : Nat → Int64) (p : Nat) (v : sv_T) : Prop :=
  iS p = sg_B v.1 ∧ (v.1 = true → wt p = nI v.2.2.1 ∧ ∀ i, i < 12 → sp (12 * p + i) = v.2.1 i) ∧ (v.1 = false → ma p = sg_B v.2.2.2.1 ∧ sc p = lN v.2.2.2.2)
def sy_R (iS ma sp wt : Nat → Int32) (sc : Nat → Int64) : List sv_T → Prop
  | [] => True
  | v :: r => sy_E iS ma sp wt sc r.length v ∧ sy_R iS ma sp wt sc r
def sy_F (n : Nat) (iS ma sp wt : Nat → Int32) (sc : Nat → Int64) (iS' ma' sp' wt' : Nat → Int32) (sc' : Nat → Int64) : Prop :=
  ∀ p, p < n → iS' p = iS p ∧ ma' p = ma p ∧ wt' p = wt p ∧ sc' p = sc p ∧ ∀ i, i < 12 → sp' (12 * p + i) = sp (12 * p + i)
theorem sy_R_fr {iS ma sp wt : Nat → Int32} {sc : Nat → Int64} {iS' ma' sp' wt' : Nat → Int32} {sc' : Nat → Int64} : ∀ {st : List sv_T}, sy_F st.length iS ma sp wt sc iS' ma' sp' wt' sc' → sy_R iS ma sp wt sc st → sy_R iS' ma' sp' wt' sc' st
  | [], _, _ => trivial
  | v :: r, f, h => by
    obtain ⟨h1, h2⟩ := h
    refine ⟨?_, sy_R_fr (fun p hp => f p (by rw [List.length_cons]; omega)) h2⟩
    obtain ⟨f1, f2, f3, f4, f5⟩ := f r.length (by rw [List.length_cons]; omega)
    obtain ⟨e1, e2, e3⟩ := h1
    refine ⟨by rw [f1, e1], fun hv => ⟨by rw [f3, (e2 hv).1], fun i hi => by rw [f5 i hi, (e2 hv).2 i hi]⟩, fun hv => ⟨by rw [f2, (e3 hv).1], by rw [f4, (e3 hv).2]⟩⟩
/-- the settled value -/
def sv_se (own : Nat) (v : sv_T) : sv_T := if v.1 = true then (false, fun _ => 0, 0, sv_mt v, sv_ss own v) else v
theorem sv_se_1 (own : Nat) (v : sv_T) : (sv_se own v).1 = false := by
  unfold sv_se
  split
  · rfl
  · rename_i h
    cases h2 : v.1 with
    | true => exact absurd h2 h
    | false => rfl
theorem sv_se_m (own : Nat) (v : sv_T) : sv_mt (sv_se own v) = sv_mt v ∧ (sv_se own v).2.2.2.1 = sv_mt v := by
  unfold sv_se
  split
  · exact ⟨rfl, rfl⟩
  · rename_i h
    refine ⟨rfl, ?_⟩
    unfold sv_mt
    rw [if_neg h]
theorem sv_se_s (own : Nat) (v : sv_T) : sv_ss own (sv_se own v) = sv_ss own v ∧ (sv_se own v).2.2.2.2 = sv_ss own v := by
  unfold sv_se
  split
  · exact ⟨rfl, rfl⟩
  · rename_i h
    refine ⟨rfl, ?_⟩
    unfold sv_ss
    rw [if_neg h]
/-- the answer of a query on one document -/
def sv_rm (W : Nat → Nat) (own : Nat) (T : Nat → Int32) (len pr : Nat) (l : List Nat) : Bool :=
  match sv_ev W own T len pr l with
  | [] => false
  | v :: _ => sv_mt v
def sv_rs (W : Nat → Nat) (own : Nat) (T : Nat → Int32) (len pr : Nat) (l : List Nat) : Nat :=
  match sv_ev W own T len pr l with
  | [] => 0
  | v :: _ => sv_ss own v
theorem sv_rm_ind {W V : Nat → Nat} {own own' : Nat} {T : Nat → Int32} {len pr : Nat} (l : List Nat) : sv_rm W own T len pr l = sv_rm V own' T len pr l := by
  have h := sv_ev_e2 (W := W) (V := V) (own := own) (own' := own') (T := T) (len := len) (pr := pr) l
  unfold sv_rm
  generalize sv_ev W own T len pr l = E at h
  generalize sv_ev V own' T len pr l = F at h
  match E, F, h with
  | [], [], _ => rfl
  | _ :: _, _ :: _, h => exact h.1.2.2
theorem sv_rs_le {W : Nat → Nat} {own : Nat} {T : Nat → Int32} {len pr : Nat} (hW : ∀ t, t < 8 → W t ≤ 9) (l : List Nat) : sv_rs W own T len pr l ≤ 27 * l.length := by
  have h := sv_ev_pt (own := own) (T := T) (len := len) (pr := pr) hW l
  unfold sv_rs
  generalize sv_ev W own T len pr l = E at h
  match E, h with
  | [], _ => exact Nat.zero_le _
  | v :: r, h =>
    have h1 := sv_ss_le own v
    have h2 : sv_pt (v :: r) = 3 * v.2.2.1 + v.2.2.2.2 + sv_pt r := rfl
    show sv_ss own v ≤ _
    omega
theorem sv_like {W : Nat → Nat} {own : Nat} {T : Nat → Int32} {len pr : Nat} (ws : List Nat) (h0 : ws ≠ []) (h : ∀ w, w ∈ ws → w < 8) :
    sv_rm W own T len pr (sv_lx ws) = sv_rm W own T len pr (sv_ly ws) ∧ sv_rs W own T len pr (sv_lx ws) = sv_rs W own T len pr (sv_ly ws) := by
  obtain ⟨v, h1, h2, h3⟩ := sv_lx_ev (W := W) (own := own) (T := T) (len := len) (pr := pr) ws h0 h
  obtain ⟨u, g1, g2, g3⟩ := sv_ly_ev (W := W) (own := own) (T := T) (len := len) (pr := pr) ws h0 h
  unfold sv_rm sv_rs
  rw [h1, g1]
  exact ⟨by show sv_mt v = sv_mt u; rw [h2, g2], by show sv_ss own v = sv_ss own u; rw [h3, g3]⟩
theorem sv_one {W : Nat → Nat} {own : Nat} {T : Nat → Int32} {len pr : Nat} {l : List Nat} {k : Bool} (ht : sv_tks l) (h : sq_b l = some [k]) : ∃ v, sv_ev W own T len pr l = [v] := by
  have := sv_kinds (W := W) (own := own) (T := T) (len := len) (pr := pr) ht h
  generalize sv_ev W own T len pr l = E at this
  match E, this with
  | [v], _ => exact ⟨v, rfl⟩
  | [], h => exact absurd h (by simp)
  | _ :: _ :: _, h => exact absurd h (by simp)
theorem sr_drop {l : List Nat} {i : Nat} (h : i < l.length) : l.drop i = l.getD i 0 :: l.drop (i + 1) := by
  rw [List.drop_eq_getElem_cons h]
  congr 1
  rw [List.getD_eq_getElem?_getD, List.getElem?_eq_getElem h]; rfl
theorem sr_getD_mem {l : List Nat} {i : Nat} (h : i < l.length) : l.getD i 0 ∈ l := by
  rw [List.getD_eq_getElem?_getD, List.getElem?_eq_getElem h]
  exact List.getElem_mem h
theorem sq_b_drop {l : List Nat} {st : List Bool} (h : sq_b l = some st) : ∀ i, i ≤ l.length → ∃ st', sq_b (l.drop i) = some st'
  | 0, _ => ⟨st, h⟩
  | i + 1, hi => by
    obtain ⟨st', h'⟩ := sq_b_drop h i (by omega)
    rw [sr_drop (by omega)] at h'
    exact sq_b_tail h'
end
section
/-! small things -/
theorem sg_cn_t {p : Nat → Bool} {n : Nat} (h : p n = true) : sg_cn p (n + 1) = sg_cn p n + 1 := by
  show sg_cn p n + (if p n = true then 1 else 0) = _
  rw [if_pos h]
theorem sg_cn_f {p : Nat → Bool} {n : Nat} (h : ¬ p n = true) : sg_cn p (n + 1) = sg_cn p n := by
  show sg_cn p n + (if p n = true then 1 else 0) = _
  rw [if_neg h]; rfl
theorem sg_cn_pre {p q : Nat → Bool} {st : Nat} : ∀ {dc : Nat}, st ≤ dc → (∀ j, j < st → p j = q j) → (∀ j, st ≤ j → j < dc → p j = false) → sg_cn p dc = sg_cn q st := by
  intro dc h h1 h2
  obtain ⟨b, rfl⟩ := Nat.exists_eq_add_of_le h
  rw [sg_cn_split, sg_cn_congr st h1, sg_cn_0 b (fun i hi => h2 (st + i) (by omega) (by omega))]
  rfl
theorem sg_sm_pre {f g : Nat → Nat} {st : Nat} : ∀ {dc : Nat}, st ≤ dc → (∀ j, j < st → f j = g j) → (∀ j, st ≤ j → j < dc → f j = 0) → sg_sm f dc = sg_sm g st := by
  intro dc h h1 h2
  obtain ⟨b, rfl⟩ := Nat.exists_eq_add_of_le h
  rw [sg_sm_split, sg_sm_congr st h1, sg_sm_0 b (fun i hi => h2 (st + i) (by omega) (by omega))]
  rfl
theorem sx_ix (d i : Nat) : nI d * 12 + nI i = nI (12 * d + i) := by
  show nI d * nI 12 + nI i = _
  rw [pk_mul, nI_add, Nat.mul_comm]
theorem sy_ix (d i : Nat) : 12 * nI d + nI i = nI (12 * d + i) := by
  show nI 12 * nI d + nI i = _
  rw [pk_mul, nI_add]
theorem sx_nm {c : Nat} (h : c < 2 ^ 31) : ¬ nI c = -1 := by
  intro e
  have h1 := nI_toInt h
  rw [e] at h1
  have h2 : (-1 : Int32).toInt = -1 := by decide
  omega
theorem sx_m0 : (-1 : Int32) < 0 := by decide
def sd_n (a : Nat → Int32) (j : Nat) : Nat := (a j).toNatClampNeg
def sd_L (aL : Nat → Int32) : Prop := ∀ j, aL j = nI (sd_n aL j) ∧ sd_n aL j ≤ 12
theorem sd_ok_L {D : sd_D} (h : sd_ok D) : sd_L D.2.2.1 := by
  intro j
  obtain ⟨n, h1, h2⟩ := h.2.2.1 j
  have : sd_n D.2.2.1 j = n := by
    unfold sd_n
    rw [h2]; exact nI_clamp (by omega)
  rw [this]; exact ⟨h2, h1⟩
def sd_P (S : Nat → Int32) (st dc : Nat) : Prop := st ≤ dc ∧ dc ≤ 32 ∧ (∀ d, d < st → ∃ c, c < 2 ^ 31 ∧ S d = nI c) ∧ (∀ d, st ≤ d → d < dc → S d = -1)
theorem sd_I_P {S : Nat → Int32} {st dc sg : Nat} (h : sd_I S st dc sg) : sd_P S st dc := by
  have := sd_I_sg h
  obtain ⟨h1, h2, h3, h4, _⟩ := h
  exact ⟨h1, h2, fun d hd => by obtain ⟨c, hc, e⟩ := h3 d hd; exact ⟨c, by omega, e⟩, h4⟩
def sd_hw (aT aL : Nat → Int32) (w j : Nat) : Bool := sd_hs aT (12 * j) (nI w) (sd_n aL j)
def sd_W (aT aL : Nat → Int32) (st w : Nat) : Nat := sd_dg (8 * (st + 1) / (sg_cn (sd_hw aT aL w) st + 1))
theorem sd_W_le (aT aL : Nat → Int32) {st : Nat} (h : st ≤ 32) (w : Nat) : sd_W aT aL st w ≤ 9 := by
  apply sd_dg_le
  have : 8 * (st + 1) / (sg_cn (sd_hw aT aL w) st + 1) ≤ 8 * (st + 1) := Nat.div_le_self _ _
  have h2 : (2 : Nat) ^ 9 = 512 := rfl
  omega
section
variable {fdc fnn fsg fpt fpq fsc fsl fhc : Int32} {aN aP aL aT aS aD aV aPT aPQ aLQ aI aM aC aW aB aG aHN aHS aHR aSH aWQ aWL aNN aNC : Nat → Int32}
theorem xr_countIn {dc : Nat} (h32 : dc ≤ 32) {x1 : Int32} (p : Nat → Bool) (hpd : ∀ j, j < dc → (p j = true ↔ aS j = x1)) {post : Int32 → Prop} (hp : post (nI (sg_cn p dc))) :
    wpX_countIn post (nI dc, fnn, fsg, fpt, fpq, fsc, fsl, fhc, aN, aP, aL, aT, aS, aD, aV, aPT, aPQ, aLQ, aI, aM, aC, aW, aB, aG, aHN, aHS, aHR, aSH, aWQ, aWL, aNN, aNC) x1 := by
  have key : ∀ m i, i + m = dc → wX_countIn_4 post x1 (nI dc) fnn fsg fpt fpq fsc fsl fhc aN aP aL aT aS aD aV aPT aPQ aLQ aI aM aC aW aB aG aHN aHS aHR aSH aWQ aWL aNN aNC (m + 1) (nI (sg_cn p i)) (nI i) := by
    intro m
    induction m with
    | zero =>
      intro i h
      obtain rfl : i = dc := by omega
      exact br_t (nI_le (Nat.le_refl _) (by omega)) hp
    | succ m ih =>
      intro i h
      have e : (nI i).toNatClampNeg = i := nI_clamp (by omega)
      have I := ih (i + 1) (by omega)
      refine br_f (nI_ge (by omega) (by omega)) ⟨vp_in_nI (by omega) (by omega), br_c (fun hc => ?_) (fun hc => ?_)⟩
      · rw [e] at hc
        rw [sg_cn_t ((hpd i (by omega)).mpr hc)] at I
        exact nm_r (nI_1 _) (nm_r (nI_1 _) I)
      · rw [e] at hc
        rw [sg_cn_f (fun z => hc ((hpd i (by omega)).mp z))] at I
        exact nm_r (nI_1 _) I
  exact Exists.intro (dc + 1) (key dc 0 (Nat.zero_add _))
theorem xr_countDeletedIn {dc : Nat} (h32 : dc ≤ 32) {x1 : Int32} (p : Nat → Bool) (hpd : ∀ j, j < dc → (p j = true ↔ (aS j = x1 ∧ ¬ aD j = 0))) {post : Int32 → Prop} (hp : post (nI (sg_cn p dc))) :
    wpX_countDeletedIn post (nI dc, fnn, fsg, fpt, fpq, fsc, fsl, fhc, aN, aP, aL, aT, aS, aD, aV, aPT, aPQ, aLQ, aI, aM, aC, aW, aB, aG, aHN, aHS, aHR, aSH, aWQ, aWL, aNN, aNC) x1 := by
  have key : ∀ m i, i + m = dc → wX_countDeletedIn_4 post x1 (nI dc) fnn fsg fpt fpq fsc fsl fhc aN aP aL aT aS aD aV aPT aPQ aLQ aI aM aC aW aB aG aHN aHS aHR aSH aWQ aWL aNN aNC (m + 1) (nI (sg_cn p i)) (nI i) := by
    intro m
    induction m with
    | zero =>
      intro i h
      obtain rfl : i = dc := by omega
      exact br_t (nI_le (Nat.le_refl _) (by omega)) hp
    | succ m ih =>
      intro i h
      have e : (nI i).toNatClampNeg = i := nI_clamp (by omega)
      have I := ih (i + 1) (by omega)
      refine br_f (nI_ge (by omega) (by omega)) ⟨vp_in_nI (by omega) (by omega), br_c (fun hc => ⟨vp_in_nI (by omega) (by omega), br_c (fun hd => ?_) (fun hd => ?_)⟩) (fun hc => ?_)⟩
      · rw [e] at hc hd
        rw [sg_cn_f (fun z => ((hpd i (by omega)).mp z).2 hd)] at I
        exact nm_r (nI_1 _) I
      · rw [e] at hc hd
        rw [sg_cn_t ((hpd i (by omega)).mpr ⟨hc, hd⟩)] at I
        exact nm_r (nI_1 _) (nm_r (nI_1 _) I)
      · rw [e] at hc
        rw [sg_cn_f (fun z => hc ((hpd i (by omega)).mp z).1)] at I
        exact nm_r (nI_1 _) I
  exact Exists.intro (dc + 1) (key dc 0 (Nat.zero_add _))
theorem xr_countAllDeleted {dc : Nat} (h32 : dc ≤ 32) (p : Nat → Bool) (hpd : ∀ j, j < dc → (p j = true ↔ ¬ aD j = 0)) {post : Int32 → Prop} (hp : post (nI (sg_cn p dc))) :
    wpX_countAllDeleted post (nI dc, fnn, fsg, fpt, fpq, fsc, fsl, fhc, aN, aP, aL, aT, aS, aD, aV, aPT, aPQ, aLQ, aI, aM, aC, aW, aB, aG, aHN, aHS, aHR, aSH, aWQ, aWL, aNN, aNC) := by
  have key : ∀ m i, i + m = dc → wX_countAllDeleted_4 post (nI dc) fnn fsg fpt fpq fsc fsl fhc aN aP aL aT aS aD aV aPT aPQ aLQ aI aM aC aW aB aG aHN aHS aHR aSH aWQ aWL aNN aNC (m + 1) (nI (sg_cn p i)) (nI i) := by
    intro m
    induction m with
    | zero =>
      intro i h
      obtain rfl : i = dc := by omega
      exact br_t (nI_le (Nat.le_refl _) (by omega)) hp
    | succ m ih =>
      intro i h
      have e : (nI i).toNatClampNeg = i := nI_clamp (by omega)
      have I := ih (i + 1) (by omega)
      refine br_f (nI_ge (by omega) (by omega)) ⟨vp_in_nI (by omega) (by omega), br_c (fun hd => ?_) (fun hd => ?_)⟩
      · rw [e] at hd
        rw [sg_cn_f (fun z => ((hpd i (by omega)).mp z) hd)] at I
        exact nm_r (nI_1 _) I
      · rw [e] at hd
        rw [sg_cn_t ((hpd i (by omega)).mpr hd)] at I
        exact nm_r (nI_1 _) (nm_r (nI_1 _) I)
  exact Exists.intro (dc + 1) (key dc 0 (Nat.zero_add _))
/-- the slot: the first with this number, or none -/
def sd_F (N : Nat → Int32) (dc : Nat) (x r : Int32) : Prop := (r = -1 ∧ ∀ j, j < dc → ¬ N j = x) ∨ ∃ d, d < dc ∧ r = nI d ∧ N d = x ∧ ∀ j, j < d → ¬ N j = x
theorem sd_F_ex (N : Nat → Int32) (x : Int32) : ∀ dc, ∃ r, sd_F N dc x r
  | 0 => ⟨-1, Or.inl ⟨rfl, fun j h => absurd h (Nat.not_lt_zero j)⟩⟩
  | dc + 1 => by
    obtain ⟨r, h | ⟨d, h1, h2⟩⟩ := sd_F_ex N x dc
    · by_cases hx : N dc = x
      · exact ⟨nI dc, Or.inr ⟨dc, by omega, rfl, hx, h.2⟩⟩
      · refine ⟨-1, Or.inl ⟨rfl, fun j hj => ?_⟩⟩
        rcases Nat.lt_or_ge j dc with h3 | h3
        · exact h.2 j h3
        · obtain rfl : j = dc := by omega
          exact hx
    · exact ⟨r, Or.inr ⟨d, by omega, h2⟩⟩
theorem xr_slotOf {dc : Nat} (h32 : dc ≤ 32) {x1 r : Int32} (hF : sd_F aN dc x1 r) {post : Int32 → Prop} (hp : post r) : wpX_slotOf post (nI dc, fnn, fsg, fpt, fpq, fsc, fsl, fhc, aN, aP, aL, aT, aS, aD, aV, aPT, aPQ, aLQ, aI, aM, aC, aW, aB, aG, aHN, aHS, aHR, aSH, aWQ, aWL, aNN, aNC) x1 := by
  have key : ∀ m i, i + m = dc → (∀ j, j < i → ¬ aN j = x1) → wX_slotOf_2 post x1 (nI dc) fnn fsg fpt fpq fsc fsl fhc aN aP aL aT aS aD aV aPT aPQ aLQ aI aM aC aW aB aG aHN aHS aHR aSH aWQ aWL aNN aNC (m + 1) (nI i) := by
    intro m
    induction m with
    | zero =>
      intro i h hn
      obtain rfl : i = dc := by omega
      rcases hF with hF | ⟨d, h1, h2, h3, h4⟩
      · rw [hF.1] at hp
        exact br_t (nI_le (Nat.le_refl _) (by omega)) hp
      · exact absurd h3 (hn d h1)
    | succ m ih =>
      intro i h hn
      have e : (nI i).toNatClampNeg = i := nI_clamp (by omega)
      refine br_f (nI_ge (by omega) (by omega)) ⟨vp_in_nI (by omega) (by omega), br_c (fun hc => ?_) (fun hc => ?_)⟩
      · rw [e] at hc
        rcases hF with hF | ⟨d, h1, h2, h3, h4⟩
        · exact absurd hc (hF.2 i (by omega))
        · have : d = i := by
            rcases Nat.lt_trichotomy d i with h5 | h5 | h5
            · exact absurd h3 (hn d h5)
            · exact h5
            · exact absurd hc (h4 i h5)
          rw [h2, this] at hp
          exact hp
      · rw [e] at hc
        refine nm_r (nI_1 _) (ih (i + 1) (by omega) (fun j hj => ?_))
        rcases Nat.lt_or_ge j i with h3 | h3
        · exact hn j h3
        · obtain rfl : j = i := by omega
          exact hc
  exact Exists.intro (dc + 1) (key dc 0 (Nat.zero_add _) (fun j h => absurd h (Nat.not_lt_zero j)))
theorem xr_lowest {dc : Nat} (h32 : dc ≤ 32) {x1 r : Int32} (hF : sd_F aS dc x1 r) {post : Int32 → Prop} (h0 : r = -1 → post (-1)) (h1 : ∀ d, d < dc → r = nI d → post (aN d)) : wpX_lowestNumberIn post (nI dc, fnn, fsg, fpt, fpq, fsc, fsl, fhc, aN, aP, aL, aT, aS, aD, aV, aPT, aPQ, aLQ, aI, aM, aC, aW, aB, aG, aHN, aHS, aHR, aSH, aWQ, aWL, aNN, aNC) x1 := by
  have key : ∀ m i, i + m = dc → (∀ j, j < i → ¬ aS j = x1) → wX_lowestNumberIn_2 post x1 (nI dc) fnn fsg fpt fpq fsc fsl fhc aN aP aL aT aS aD aV aPT aPQ aLQ aI aM aC aW aB aG aHN aHS aHR aSH aWQ aWL aNN aNC (m + 1) (nI i) := by
    intro m
    induction m with
    | zero =>
      intro i h hn
      obtain rfl : i = dc := by omega
      rcases hF with hF | ⟨d, h1, h2, h3, h4⟩
      · exact br_t (nI_le (Nat.le_refl _) (by omega)) (h0 hF.1)
      · exact absurd h3 (hn d h1)
    | succ m ih =>
      intro i h hn
      have e : (nI i).toNatClampNeg = i := nI_clamp (by omega)
      refine br_f (nI_ge (by omega) (by omega)) ⟨vp_in_nI (by omega) (by omega), br_c (fun hc => ⟨vp_in_nI (by omega) (by omega), ?_⟩) (fun hc => ?_)⟩
      · rw [e] at hc
        rw [e]
        rcases hF with hF | ⟨d, h1', h2, h3, h4⟩
        · exact absurd hc (hF.2 i (by omega))
        · have : d = i := by
            rcases Nat.lt_trichotomy d i with h5 | h5 | h5
            · exact absurd h3 (hn d h5)
            · exact h5
            · exact absurd hc (h4 i h5)
          exact h1 i (by omega) (by rw [h2, this])
      · rw [e] at hc
        refine nm_r (nI_1 _) (ih (i + 1) (by omega) (fun j hj => ?_))
        rcases Nat.lt_or_ge j i with h3 | h3
        · exact hn j h3
        · obtain rfl : j = i := by omega
          exact hc
  exact Exists.intro (dc + 1) (key dc 0 (Nat.zero_add _) (fun j h => absurd h (Nat.not_lt_zero j)))
theorem xr_hasWord {d len : Nat} (hd : d < 32) (hl : aL d = nI len) (hn : len ≤ 12) {w : Int32} {post : Int32 → Prop} (hp : post (sg_B (sd_hs aT (12 * d) w len))) : wpX_hasWord post (fdc, fnn, fsg, fpt, fpq, fsc, fsl, fhc, aN, aP, aL, aT, aS, aD, aV, aPT, aPQ, aLQ, aI, aM, aC, aW, aB, aG, aHN, aHS, aHR, aSH, aWQ, aWL, aNN, aNC) (nI d) w := by
  have ed : (nI d).toNatClampNeg = d := nI_clamp (by omega)
  have key : ∀ m i, i + m = len → sd_hs aT (12 * d) w i = false → wX_hasWord_2 post (nI d) w fdc fnn fsg fpt fpq fsc fsl fhc aN aP aL aT aS aD aV aPT aPQ aLQ aI aM aC aW aB aG aHN aHS aHR aSH aWQ aWL aNN aNC (m + 1) (nI i) := by
    intro m
    induction m with
    | zero =>
      intro i h hf
      obtain rfl : i = len := by omega
      rw [hf] at hp
      exact ⟨vp_in_nI hd (by omega), br_t (by rw [ed, hl]; exact nI_le (Nat.le_refl _) (by omega)) hp⟩
    | succ m ih =>
      intro i h hf
      have e2 : (nI d * 12 + nI i).toNatClampNeg = 12 * d + i := by rw [sx_ix]; exact nI_clamp (by omega)
      refine ⟨vp_in_nI hd (by omega), br_f (by rw [ed, hl]; exact nI_ge (by omega) (by omega)) ⟨by rw [sx_ix]; exact vp_in_nI (by omega) (by omega), br_c (fun hc => ?_) (fun hc => ?_)⟩⟩
      · rw [e2] at hc
        rw [(sd_hs_iff len).mpr ⟨i, by omega, hc⟩] at hp
        exact hp
      · rw [e2] at hc
        refine nm_r (nI_1 _) (ih (i + 1) (by omega) ?_)
        show (sd_hs aT (12 * d) w i || decide (aT (12 * d + i) = w)) = false
        rw [hf, decide_eq_false hc]; rfl
  exact Exists.intro (len + 1) (key len 0 (Nat.zero_add _) rfl)
theorem xr_countStored {dc : Nat} (h32 : dc ≤ 32) (hL : sd_L aL) {w : Nat} (p : Nat → Bool) (hpd : ∀ j, j < dc → (p j = true ↔ (¬ aS j = -1 ∧ sd_hw aT aL w j = true))) {post : Int32 → Prop} (hp : post (nI (sg_cn p dc))) :
    wpX_countStoredWith post (nI dc, fnn, fsg, fpt, fpq, fsc, fsl, fhc, aN, aP, aL, aT, aS, aD, aV, aPT, aPQ, aLQ, aI, aM, aC, aW, aB, aG, aHN, aHS, aHR, aSH, aWQ, aWL, aNN, aNC) (nI w) := by
  have key : ∀ m i, i + m = dc → wX_countStoredWith_4 post (nI w) (nI dc) fnn fsg fpt fpq fsc fsl fhc aN aP aL aT aS aD aV aPT aPQ aLQ aI aM aC aW aB aG aHN aHS aHR aSH aWQ aWL aNN aNC (m + 1) (nI (sg_cn p i)) (nI i) := by
    intro m
    induction m with
    | zero =>
      intro i h
      obtain rfl : i = dc := by omega
      exact br_t (nI_le (Nat.le_refl _) (by omega)) hp
    | succ m ih =>
      intro i h
      have e : (nI i).toNatClampNeg = i := nI_clamp (by omega)
      have I := ih (i + 1) (by omega)
      refine br_f (nI_ge (by omega) (by omega)) ⟨vp_in_nI (by omega) (by omega), br_c (fun hc => ?_) (fun hc => ?_)⟩
      · rw [e] at hc
        rw [sg_cn_f (fun z => ((hpd i (by omega)).mp z).1 hc)] at I
        exact nm_r (nI_1 _) I
      · rw [e] at hc
        refine xr_hasWord (d := i) (len := sd_n aL i) (by omega) (hL i).1 (hL i).2 ?_
        cases hh : sd_hs aT (12 * i) (nI w) (sd_n aL i) with
        | true =>
          rw [sg_cn_t ((hpd i (by omega)).mpr ⟨hc, hh⟩)] at I
          exact br_f (by decide) (nm_r (nI_1 _) (nm_r (nI_1 _) I))
        | false =>
          rw [sg_cn_f (fun z => by have := ((hpd i (by omega)).mp z).2; unfold sd_hw at this; rw [hh] at this; exact absurd this (by decide))] at I
          exact br_t rfl (nm_r (nI_1 _) I)
  exact Exists.intro (dc + 1) (key dc 0 (Nat.zero_add _))
theorem xr_digits {v : Nat} (hv : v < 2 ^ 31) {post : Int32 → Prop} (hp : post (nI (sd_dg v))) : wpX_binaryDigits post (nI v) := by
  have h31 : sd_dg v ≤ 31 := sd_dg_le hv
  have key : ∀ m i, i + m = 31 → wX_binaryDigits_4 post (nI v) (m + 1) (nI (min i (sd_dg v))) (nI i) := by
    intro m
    induction m with
    | zero =>
      intro i h
      obtain rfl : i = 31 := by omega
      rw [Nat.min_eq_right h31]
      exact br_t (nI_le (b := 31) (Nat.le_refl _) (by decide)) hp
    | succ m ih =>
      intro i h
      have I := ih (i + 1) (by omega)
      have es : nI v >>> (nI i &&& 31) = nI (v / 2 ^ i) := pk_shrN hv _ i (s_l i (by omega))
      have hi := sd_dg_iff i v
      have hq : v / 2 ^ i < 2 ^ 31 := Nat.lt_of_le_of_lt (Nat.div_le_self _ _) hv
      refine br_f (nI_ge (b := 31) (by omega) (by decide)) (br_c (fun hc => ?_) (fun hc => ?_))
      · rw [es] at hc
        have h0 : v / 2 ^ i ≤ 0 := (nI_leI (b := 0) hq (by decide)).mp hc
        have e : min (i + 1) (sd_dg v) = min i (sd_dg v) := by omega
        rw [e] at I
        exact nm_r (nI_1 _) I
      · rw [es] at hc
        have h0 : ¬ v / 2 ^ i ≤ 0 := fun z => hc ((nI_leI (b := 0) hq (by decide)).mpr z)
        have e : min (i + 1) (sd_dg v) = i + 1 := by omega
        rw [e] at I
        exact nm_r (nI_1 _) (nm_r (nI_1 _) I)
  have := key 31 0 rfl
  rw [Nat.zero_min] at this
  exact Exists.intro 32 this
theorem xr_weigh {dc st : Nat} (hP : sd_P aS st dc) (hL : sd_L aL) {post : SX → Prop}
    (hp : ∀ aG' : Nat → Int32, (∀ w, w < 8 → aG' w = nI (sd_W aT aL st w)) → post (nI dc, fnn, fsg, fpt, fpq, nI st, nI (sg_sm (sd_n aL) st), fhc, aN, aP, aL, aT, aS, aD, aV, aPT, aPQ, aLQ, aI, aM, aC, aW, aB, aG', aHN, aHS, aHR, aSH, aWQ, aWL, aNN, aNC)) :
    wpX_weighWords post (nI dc, fnn, fsg, fpt, fpq, fsc, fsl, fhc, aN, aP, aL, aT, aS, aD, aV, aPT, aPQ, aLQ, aI, aM, aC, aW, aB, aG, aHN, aHS, aHR, aSH, aWQ, aWL, aNN, aNC) := by
  obtain ⟨h1, h32, h3, h4⟩ := hP
  have key2 : ∀ m i (g : Nat → Int32), i + m = 8 → (∀ w, w < i → g w = nI (sd_W aT aL st w)) →
      wX_weighWords_63 post (nI dc) fnn fsg fpt fpq (nI st) (nI (sg_sm (sd_n aL) st)) fhc (m + 1) (nI i) aN aP aL aT aS aD aV aPT aPQ aLQ aI aM aC aW aB g aHN aHS aHR aSH aWQ aWL aNN aNC := by
    intro m
    induction m with
    | zero =>
      intro i g h hg
      obtain rfl : i = 8 := by omega
      exact br_t (nI_le (b := 8) (Nat.le_refl _) (by decide)) (hp g hg)
    | succ m ih =>
      intro i g h hg
      have e : (nI i).toNatClampNeg = i := nI_clamp (by omega)
      refine br_f (nI_ge (b := 8) (by omega) (by decide)) ?_
      refine xr_countStored h32 hL (w := i) (fun j => decide (j < st) && sd_hw aT aL i j) ?_ ?_
      · intro j hj
        rw [Bool.and_eq_true_iff, decide_eq_true_iff]
        constructor
        · rintro ⟨a, b⟩
          obtain ⟨c, hc, ec⟩ := h3 j a
          exact ⟨by rw [ec]; exact sx_nm hc, b⟩
        · rintro ⟨a, b⟩
          refine ⟨?_, b⟩
          rcases Nat.lt_or_ge j st with h5 | h5
          · exact h5
          · exact absurd (h4 j h5 hj) a
      · rw [sg_cn_pre (q := sd_hw aT aL i) h1 (fun j hj => by show (decide (j < st) && sd_hw aT aL i j) = _; rw [decide_eq_true hj, Bool.true_and]) (fun j hj _ => by show (decide (j < st) && sd_hw aT aL i j) = _; rw [decide_eq_false (by omega), Bool.false_and])]
        have hcn := sg_cn_le (sd_hw aT aL i) st
        have ea : (8 * (nI st + 1)) / (nI (sg_cn (sd_hw aT aL i) st) + 1) = nI (8 * (st + 1) / (sg_cn (sd_hw aT aL i) st + 1)) := by
          rw [nI_1, nI_1]
          show nI 8 * nI (st + 1) / _ = _
          rw [pk_mul, pk_div (by omega) (by omega) (by omega)]
        have hb : 8 * (st + 1) / (sg_cn (sd_hw aT aL i) st + 1) ≤ 8 * (st + 1) := Nat.div_le_self _ _
        refine ⟨by rw [nI_1]; exact nI_ne0 (by omega) (by omega), ?_⟩
        rw [ea]
        refine xr_digits (by omega) ⟨vp_in_nI (by omega) (by decide), ?_⟩
        rw [e]
        refine nm_e (nm_r (nI_1 _) (ih (i + 1) _ (by omega) (fun w hw => ?_)))
        rcases Nat.lt_or_ge w i with h5 | h5
        · rw [pk_un (by omega)]; exact hg w h5
        · obtain rfl : w = i := by omega
          rw [pk_us]; rfl
  have key : ∀ m i, i + m = dc → wX_weighWords_12 post (nI dc) fnn fsg fpt fpq fhc aN aP aL aT aS aD aV aPT aPQ aLQ aI aM aC aW aB aG aHN aHS aHR aSH aWQ aWL aNN aNC (m + 1) (nI i) (nI (min i st)) (nI (sg_sm (sd_n aL) (min i st))) := by
    intro m
    induction m with
    | zero =>
      intro i h
      obtain rfl : i = dc := by omega
      rw [Nat.min_eq_right h1]
      exact br_t (nI_le (Nat.le_refl _) (by omega)) (Exists.intro 9 (key2 8 0 _ rfl (fun w hw => absurd hw (Nat.not_lt_zero w))))
    | succ m ih =>
      intro i h
      have e : (nI i).toNatClampNeg = i := nI_clamp (by omega)
      have I := ih (i + 1) (by omega)
      refine br_f (nI_ge (by omega) (by omega)) ⟨vp_in_nI (by omega) (by omega), br_c (fun hc => ?_) (fun hc => ?_)⟩
      · rw [e] at hc
        have : st ≤ i := by
          rcases Nat.lt_or_ge i st with h5 | h5
          · obtain ⟨c, hc', ec⟩ := h3 i h5
            rw [ec] at hc
            exact absurd hc (sx_nm hc')
          · exact h5
        rw [Nat.min_eq_right (by omega)] at I
        rw [Nat.min_eq_right this]
        exact nm_r (nI_1 _) I
      · rw [e] at hc
        have : i < st := by
          rcases Nat.lt_or_ge i st with h5 | h5
          · exact h5
          · exact absurd (h4 i h5 (by omega)) hc
        rw [Nat.min_eq_left (by omega)] at I
        rw [Nat.min_eq_left (by omega)]
        refine nm_r (nI_1 _) ⟨vp_in_nI (by omega) (by omega), ?_⟩
        rw [e]
        exact nm_r (by rw [(hL i).1, nI_add]; rfl) (nm_r (nI_1 _) I)
  have k0 := key dc 0 (Nat.zero_add _)
  rw [Nat.zero_min] at k0
  exact Exists.intro (dc + 1) k0
end
end
section
theorem sx_nb {x : Int32} (h : x = 0 ∨ x = 1) : vp_nar .boolean x = x := by
  rcases h with h | h
  · subst h; rfl
  · subst h; rfl
theorem sg_B_01 (b : Bool) : sg_B b = 0 ∨ sg_B b = 1 := by
  cases b
  · exact Or.inl rfl
  · exact Or.inr rfl
def sd_rmv : Nat → Nat → sd_D → sd_D
  | 0, _, D => D
  | m + 1, k, D => sd_rmv m (k + 1) (sd_cp D (k + 1) k)
theorem sd_jn_le (fr : Int32) (D : sd_D) : ∀ d, (sd_jn fr D d).2.1 ≤ d ∧ (sd_jn fr D d).2.2 ≤ (sd_jn fr D d).2.1
  | 0 => ⟨Nat.le_refl _, Nat.le_refl _⟩
  | d + 1 => by
    obtain ⟨h1, h2⟩ := sd_jn_le fr D d
    show (sd_js fr d (sd_jn fr D d)).2.1 ≤ d + 1 ∧ (sd_js fr d (sd_jn fr D d)).2.2 ≤ (sd_js fr d (sd_jn fr D d)).2.1
    generalize sd_jn fr D d = s at h1 h2
    unfold sd_js
    split
    · split
      · show s.2.1 + 1 ≤ d + 1 ∧ s.2.2 + 1 ≤ s.2.1 + 1
        omega
      · omega
    · show s.2.1 + 1 ≤ d + 1 ∧ s.2.2 ≤ s.2.1 + 1
      omega
section
variable {fdc fnn fsg fpt fpq fsc fsl fhc : Int32} {aN aP aL aT aS aD aV aPT aPQ aLQ aI aM aC aW aB aG aHN aHS aHR aSH aWQ aWL aNN aNC : Nat → Int32}
theorem xd_append {dc pt : Nat} (hd : dc < 32) (hpt : pt ≤ 12) {num price : Int32} {post : SX → Prop}
    (hp : post (nI (dc + 1), fnn, fsg, nI pt, fpq, fsc, fsl, fhc, upd aN dc num, upd aP dc price, upd aL dc (nI pt), sd_cy aT (12 * dc) aPT 0 pt, upd aS dc (-1), upd aD dc 0, aV, aPT, aPQ, aLQ, aI, aM, aC, aW, aB, aG, aHN, aHS, aHR, aSH, aWQ, aWL, aNN, aNC)) :
    wpX_appendDocument post (nI dc, fnn, fsg, nI pt, fpq, fsc, fsl, fhc, aN, aP, aL, aT, aS, aD, aV, aPT, aPQ, aLQ, aI, aM, aC, aW, aB, aG, aHN, aHS, aHR, aSH, aWQ, aWL, aNN, aNC) num price := by
  have ed : (nI dc).toNatClampNeg = dc := nI_clamp (by omega)
  have key : ∀ m i, i + m = pt → wX_appendDocument_56 post (nI dc) (nI (dc + 1)) fnn fsg (nI pt) fpq fsc fsl fhc (m + 1) (nI i) (upd aN dc num) (upd aP dc price) (upd aL dc (nI pt)) (sd_cy aT (12 * dc) aPT 0 i) (upd aS dc (-1)) (upd aD dc 0) aV aPT aPQ aLQ aI aM aC aW aB aG aHN aHS aHR aSH aWQ aWL aNN aNC := by
    intro m
    induction m with
    | zero =>
      intro i h
      obtain rfl : i = pt := by omega
      exact br_t (nI_le (Nat.le_refl _) (by omega)) hp
    | succ m ih =>
      intro i h
      have e1 : (nI i).toNatClampNeg = i := nI_clamp (by omega)
      have e2 : (nI dc * 12 + nI i).toNatClampNeg = 12 * dc + i := by rw [sx_ix]; exact nI_clamp (by omega)
      refine br_f (nI_ge (by omega) (by omega)) ⟨vp_in_nI (by omega) (by omega), by rw [sx_ix]; exact vp_in_nI (by omega) (by omega), ?_⟩
      rw [e1, e2]
      have e3 := sd_cy_s aT (12 * dc) aPT 0 i
      rw [Nat.zero_add] at e3
      exact nm_r e3 (nm_r (nI_1 _) (ih (i + 1) (by omega)))
  have k0 := key pt 0 (Nat.zero_add _)
  rw [sd_cy_0] at k0
  have hv : vp_in (nI dc) 32 := vp_in_nI hd (by omega)
  refine nm_r (nI_1 _) ⟨hv, ?_⟩
  rw [ed]
  refine nm_e ⟨hv, nm_e ⟨hv, nm_e ⟨hv, nm_e ⟨hv, nm_r (by rw [sx_nb (Or.inl rfl)]) (Exists.intro (pt + 1) k0)⟩⟩⟩⟩
theorem xd_move {D : sd_D} {f t : Nat} (hf : f < 32) (ht : t < 32) (hD : D.2.2.2.2.2 f = 0 ∨ D.2.2.2.2.2 f = 1) {post : SX → Prop}
    (hp : post (fdc, fnn, fsg, fpt, fpq, fsc, fsl, fhc, (sd_cp D f t).1, (sd_cp D f t).2.1, (sd_cp D f t).2.2.1, (sd_cp D f t).2.2.2.1, (sd_cp D f t).2.2.2.2.1, (sd_cp D f t).2.2.2.2.2, aV, aPT, aPQ, aLQ, aI, aM, aC, aW, aB, aG, aHN, aHS, aHR, aSH, aWQ, aWL, aNN, aNC)) : wpX_moveDocument post (fdc, fnn, fsg, fpt, fpq, fsc, fsl, fhc, D.1, D.2.1, D.2.2.1, D.2.2.2.1, D.2.2.2.2.1, D.2.2.2.2.2, aV, aPT, aPQ, aLQ, aI, aM, aC, aW, aB, aG, aHN, aHS, aHR, aSH, aWQ, aWL, aNN, aNC) (nI f) (nI t) := by
  have ef : (nI f).toNatClampNeg = f := nI_clamp (by omega)
  have et : (nI t).toNatClampNeg = t := nI_clamp (by omega)
  have key : ∀ m i, i + m = 12 → wX_moveDocument_62 post (nI f) (nI t) fdc fnn fsg fpt fpq fsc fsl fhc (m + 1) (nI i) ((sd_cp D f t).1) ((sd_cp D f t).2.1) ((sd_cp D f t).2.2.1) (sd_cy D.2.2.2.1 (12 * t) D.2.2.2.1 (12 * f) i) ((sd_cp D f t).2.2.2.2.1) ((sd_cp D f t).2.2.2.2.2) aV aPT aPQ aLQ aI aM aC aW aB aG aHN aHS aHR aSH aWQ aWL aNN aNC := by
    intro m
    induction m with
    | zero =>
      intro i h
      obtain rfl : i = 12 := by omega
      exact br_t (nI_le (b := 12) (Nat.le_refl _) (by decide)) hp
    | succ m ih =>
      intro i h
      have e1 : (nI f * 12 + nI i).toNatClampNeg = 12 * f + i := by rw [sx_ix]; exact nI_clamp (by omega)
      have e2 : (nI t * 12 + nI i).toNatClampNeg = 12 * t + i := by rw [sx_ix]; exact nI_clamp (by omega)
      refine br_f (nI_ge (b := 12) (by omega) (by decide)) ⟨by rw [sx_ix]; exact vp_in_nI (by omega) (by omega), by rw [sx_ix]; exact vp_in_nI (by omega) (by omega), ?_⟩
      rw [e1, e2]
      have e3 := sd_cy_s D.2.2.2.1 (12 * t) D.2.2.2.1 (12 * f) i
      rw [← sd_cy_mv D.2.2.2.1 f t i (by omega)] at e3
      exact nm_r e3 (nm_r (nI_1 _) (ih (i + 1) (by omega)))
  have k0 := key 12 0 rfl
  rw [sd_cy_0] at k0
  have hvf : vp_in (nI f) 32 := vp_in_nI hf (by omega)
  have hvt : vp_in (nI t) 32 := vp_in_nI ht (by omega)
  refine ⟨hvf, hvt, ?_⟩
  rw [ef, et]
  exact nm_e ⟨hvf, hvt, nm_e ⟨hvf, hvt, nm_e ⟨hvf, hvt, nm_e ⟨hvf, hvt, nm_r (by rw [sx_nb hD]; rfl) (Exists.intro 13 k0)⟩⟩⟩⟩
theorem xd_remove {dc : Nat} (h32 : dc ≤ 32) {post : SX → Prop} : ∀ m k (D : sd_D), k + 1 + m = dc → sd_ok D → post (nI (dc - 1), fnn, fsg, fpt, fpq, fsc, fsl, fhc, (sd_rmv m k D).1, (sd_rmv m k D).2.1, (sd_rmv m k D).2.2.1, (sd_rmv m k D).2.2.2.1, (sd_rmv m k D).2.2.2.2.1, (sd_rmv m k D).2.2.2.2.2, aV, aPT, aPQ, aLQ, aI, aM, aC, aW, aB, aG, aHN, aHS, aHR, aSH, aWQ, aWL, aNN, aNC) →
    wX_removeSlot_4 post (m + 1) (nI (k + 1)) (nI dc) fnn fsg fpt fpq fsc fsl fhc D.1 D.2.1 D.2.2.1 D.2.2.2.1 D.2.2.2.2.1 D.2.2.2.2.2 aV aPT aPQ aLQ aI aM aC aW aB aG aHN aHS aHR aSH aWQ aWL aNN aNC := by
  intro m
  induction m with
  | zero =>
    intro k D h _ hp
    obtain rfl : k + 1 = dc := by omega
    exact br_t (nI_le (Nat.le_refl _) (by omega)) (nm_r (nI_pred k) hp)
  | succ m ih =>
    intro k D h hD hp
    refine br_f (nI_ge (by omega) (by omega)) ?_
    rw [nI_pred]
    exact xd_move (by omega) (by omega) (hD.2.2.2 _) (nm_r (nI_1 _) (ih (k + 1) _ (by omega) (sd_ok_cp hD _ _) hp))
theorem xd_join {dc f : Nat} {lev : Int32} (h32 : dc ≤ 32) (hf : f < 32) {D : sd_D} (hD : sd_ok D) {post : SX → Prop}
    (hp0 : (sd_jn (nI f) D dc).2.2 = 0 → post (nI (sd_jn (nI f) D dc).2.1, fnn, nI f, fpt, fpq, fsc, fsl, fhc, ((sd_jn (nI f) D dc).1).1, ((sd_jn (nI f) D dc).1).2.1, ((sd_jn (nI f) D dc).1).2.2.1, ((sd_jn (nI f) D dc).1).2.2.2.1, ((sd_jn (nI f) D dc).1).2.2.2.2.1, ((sd_jn (nI f) D dc).1).2.2.2.2.2, aV, aPT, aPQ, aLQ, aI, aM, aC, aW, aB, aG, aHN, aHS, aHR, aSH, aWQ, aWL, aNN, aNC))
    (hp1 : 0 < (sd_jn (nI f) D dc).2.2 → post (nI (sd_jn (nI f) D dc).2.1, fnn, nI (f + 1), fpt, fpq, fsc, fsl, fhc, ((sd_jn (nI f) D dc).1).1, ((sd_jn (nI f) D dc).1).2.1, ((sd_jn (nI f) D dc).1).2.2.1, ((sd_jn (nI f) D dc).1).2.2.2.1, ((sd_jn (nI f) D dc).1).2.2.2.2.1, ((sd_jn (nI f) D dc).1).2.2.2.2.2, upd aV f lev, aPT, aPQ, aLQ, aI, aM, aC, aW, aB, aG, aHN, aHS, aHR, aSH, aWQ, aWL, aNN, aNC)) :
    wpX_joinSegments post (nI dc, fnn, fsg, fpt, fpq, fsc, fsl, fhc, D.1, D.2.1, D.2.2.1, D.2.2.2.1, D.2.2.2.2.1, D.2.2.2.2.2, aV, aPT, aPQ, aLQ, aI, aM, aC, aW, aB, aG, aHN, aHS, aHR, aSH, aWQ, aWL, aNN, aNC) (nI f) lev := by
  have key : ∀ m d, d + m = dc → wX_joinSegments_8 post (nI f) lev (m + 1) (nI (sd_jn (nI f) D d).2.1) (nI (sd_jn (nI f) D d).2.2) (nI d) (nI dc) fnn fsg fpt fpq fsc fsl fhc (((sd_jn (nI f) D d).1).1) (((sd_jn (nI f) D d).1).2.1) (((sd_jn (nI f) D d).1).2.2.1) (((sd_jn (nI f) D d).1).2.2.2.1) (((sd_jn (nI f) D d).1).2.2.2.2.1) (((sd_jn (nI f) D d).1).2.2.2.2.2) aV aPT aPQ aLQ aI aM aC aW aB aG aHN aHS aHR aSH aWQ aWL aNN aNC := by
    intro m
    induction m with
    | zero =>
      intro i h
      obtain rfl : i = dc := by omega
      have hle := sd_jn_le (nI f) D i
      refine br_t (nI_le (Nat.le_refl _) (by omega)) (br_c (fun hc => ?_) (fun hc => ?_))
      · have h0 : (sd_jn (nI f) D i).2.2 ≤ 0 := (nI_leI (b := 0) (by omega) (by decide)).mp hc
        exact hp0 (by omega)
      · have h0 : ¬ (sd_jn (nI f) D i).2.2 ≤ 0 := fun z => hc ((nI_leI (b := 0) (by omega) (by decide)).mpr z)
        exact ⟨vp_in_nI hf (by omega), nm_r (by rw [nI_clamp (by omega)]) (nm_r (nI_1 _) (hp1 (by omega)))⟩
    | succ m ih =>
      intro d h
      have e : (nI d).toNatClampNeg = d := nI_clamp (by omega)
      have I := ih (d + 1) (by omega)
      have hle := sd_jn_le (nI f) D d
      have hok := sd_ok_jn hD (nI f) d
      have ej : sd_jn (nI f) D (d + 1) = sd_js (nI f) d (sd_jn (nI f) D d) := rfl
      rw [ej] at I
      generalize sd_jn (nI f) D d = s at I hle hok
      unfold sd_js at I
      have hv : vp_in (nI d) 32 := vp_in_nI (by omega) (by omega)
      refine br_f (nI_ge (by omega) (by omega)) ⟨hv, br_c (fun hc => ?_) (fun hc => ?_)⟩
      · rw [e] at hc
        rw [if_neg (Int32.not_le.mpr hc)] at I
        exact br_t rfl (xd_move (by omega) (by omega) (hok.2.2.2 _) (br_t rfl (nm_r (nI_1 _) (nm_r (nI_1 _) I))))
      · rw [e] at hc
        rw [if_pos (Int32.not_lt.mp hc)] at I
        refine br_f (by decide) ⟨hv, br_c (fun hz => ?_) (fun hz => ?_)⟩
        · rw [e] at hz
          rw [if_pos hz] at I
          refine xd_move (by omega) (by omega) (hok.2.2.2 _) (br_f (by decide) ⟨vp_in_nI (by omega) (by omega), ?_⟩)
          rw [nI_clamp (by omega)]
          exact nm_e (nm_r (nI_1 _) (nm_r (nI_1 _) (nm_r (nI_1 _) I)))
        · rw [e] at hz
          rw [if_neg hz] at I
          exact nm_r (nI_1 _) I
  exact Exists.intro (dc + 1) (key dc 0 (Nat.zero_add _))
/-- the last three segments are alike -/
def sd_al (V : Nat → Int32) (sg : Nat) : Prop := 3 ≤ sg ∧ V (sg - 3) < 3 ∧ V (sg - 2) = V (sg - 3) ∧ V (sg - 1) = V (sg - 3)
theorem xd_alike {sg : Nat} (h32 : sg ≤ 32) {post : Int32 → Prop} (h1 : sd_al aV sg → post 1) (h0 : ¬ sd_al aV sg → post 0) : wpX_lastSegmentsAreAlike post (fdc, fnn, nI sg, fpt, fpq, fsc, fsl, fhc, aN, aP, aL, aT, aS, aD, aV, aPT, aPQ, aLQ, aI, aM, aC, aW, aB, aG, aHN, aHS, aHR, aSH, aWQ, aWL, aNN, aNC) := by
  rcases Nat.lt_or_ge sg 3 with h | h
  · exact nm_e (br_t (pk_sneg (b := 3) (by decide) h) (h0 (fun z => by have := z.1; omega)))
  · obtain ⟨f, rfl⟩ : ∃ f, sg = f + 3 := ⟨sg - 3, by omega⟩
    have e3 : nI (f + 3) - 3 = nI f := by
      show nI (f + 3) - nI 3 = _
      rw [pk_sub (by omega)]; rfl
    have hv : vp_in (nI f) 32 := vp_in_nI (by omega) (by omega)
    have ef : (nI f).toNatClampNeg = f := nI_clamp (by omega)
    have ef1 : (nI (f + 1)).toNatClampNeg = f + 1 := nI_clamp (by omega)
    have ef2 : (nI (f + 2)).toNatClampNeg = f + 2 := nI_clamp (by omega)
    have al : sd_al aV (f + 3) ↔ (aV f < 3 ∧ aV (f + 1) = aV f ∧ aV (f + 2) = aV f) := by
      unfold sd_al
      show 3 ≤ f + 3 ∧ aV f < 3 ∧ aV (f + 1) = aV f ∧ aV (f + 2) = aV f ↔ _
      exact ⟨fun z => z.2, fun z => ⟨by omega, z⟩⟩
    rw [al] at h1 h0
    refine nm_r e3 (br_f (nI_pos (by omega)) ⟨hv, br_c (fun hc => ?_) (fun hc => ?_)⟩)
    · rw [ef] at hc
      refine nm_r (nI_1 _) (Exists.intro 3 ?_)
      refine br_f (nI_ge (by omega) (by omega)) ⟨vp_in_nI (by omega) (by omega), hv, br_c (fun hd => ?_) (fun hd => ?_)⟩
      · rw [ef, ef1] at hd
        refine nm_r (nI_1 _) (br_f (nI_ge (by omega) (by omega)) ⟨vp_in_nI (by omega) (by omega), hv, br_c (fun hg => ?_) (fun hg => ?_)⟩)
        · have hg' : aV (nI (f + 2)).toNatClampNeg = aV (nI f).toNatClampNeg := hg
          rw [ef, ef2] at hg'
          exact nm_r (nI_1 _) (br_t (nI_le (Nat.le_refl _) (by omega)) (h1 ⟨hc, hd, hg'⟩))
        · have hg' : ¬ aV (nI (f + 2)).toNatClampNeg = aV (nI f).toNatClampNeg := hg
          rw [ef, ef2] at hg'
          exact h0 (fun z => hg' z.2.2)
      · rw [ef, ef1] at hd
        exact h0 (fun z => hd z.2.1)
    · rw [ef] at hc
      exact h0 (fun z => hc z.1)
end
end
section
theorem sv_bit1 : ∀ j, j < 32 → bt 1 j = decide (j = 0) := by decide +kernel
theorem sv_bit (x : Int32) {l : Nat} (hl : l < 32) : (x >>> (nI l &&& 31)) &&& 1 = nI (sv_bn x l) := by
  apply b_ext
  intro j hj
  rw [b_and, b_sshr l hl x hj, sv_bit1 j hj]
  unfold sv_bn
  by_cases h0 : j = 0
  · subst h0
    rw [if_pos (show l + 0 < 32 by omega), Nat.add_zero, decide_eq_true rfl, Bool.and_true]
    cases bt x l
    · show false = bt (nI 0) 0
      rw [nI_0, b_0]
    · show true = bt 1 0
      rw [sv_bit1 0 (by omega)]; rfl
  · rw [decide_eq_false h0, Bool.and_false]
    split
    · show false = bt 1 j
      rw [sv_bit1 j hj, decide_eq_false h0]
    · show false = bt (nI 0) j
      rw [nI_0, b_0]
def sv_own (len st tot : Nat) : Nat := if tot = 0 then 0 else 90 * len * st / tot
theorem sx_12 (p : Nat) : nI p * 12 = nI (12 * p) := by
  show nI p * nI 12 = _
  rw [pk_mul, Nat.mul_comm]
section
variable {fdc fnn fsg fpt fpq fsc fsl fhc : Int32} {aN aP aL aT aS aD aV aPT aPQ aLQ aI aM aC aW aB aG aHN aHS aHR aSH aWQ aWL aNN aNC : Nat → Int32}
theorem xs_count {p : Nat} (hp15 : p < 15) {s : Nat → Int32} (hs : ∀ i, i < 12 → aB (12 * p + i) = s i) {post : Int32 → Prop} (hp : post (nI (sv_ct s))) : wpX_countSpans post (fdc, fnn, fsg, fpt, fpq, fsc, fsl, fhc, aN, aP, aL, aT, aS, aD, aV, aPT, aPQ, aLQ, aI, aM, aC, aW, aB, aG, aHN, aHS, aHR, aSH, aWQ, aWL, aNN, aNC) (nI p) := by
  have inner : ∀ (J : Int32 → Int32 → Prop) (i c0 : Nat), i < 12 → J (nI (c0 + sg_sm (fun l => sv_bn (s i) l) 12)) (nI (i + 1)) → ∀ m l, l + m = 12 →
      wX_countSpans_13 post J (nI p) (nI i) fdc fnn fsg fpt fpq fsc fsl fhc aN aP aL aT aS aD aV aPT aPQ aLQ aI aM aC aW aB aG aHN aHS aHR aSH aWQ aWL aNN aNC (m + 1) (nI (c0 + sg_sm (fun l => sv_bn (s i) l) l)) (nI l) := by
    intro J i c0 hi hJ m
    induction m with
    | zero =>
      intro l h
      obtain rfl : l = 12 := by omega
      exact br_t (nI_le (b := 12) (Nat.le_refl _) (by decide)) (nm_r (nI_1 _) hJ)
    | succ m ih =>
      intro l h
      have e2 : (nI p * 12 + nI i).toNatClampNeg = 12 * p + i := by rw [sx_ix]; exact nI_clamp (by omega)
      refine br_f (nI_ge (b := 12) (by omega) (by decide)) ⟨by rw [sx_ix]; exact vp_in_nI (by omega) (by omega), ?_⟩
      rw [e2, hs i hi, sv_bit _ (show l < 32 by omega), nI_add, Nat.add_assoc]
      exact nm_e (nm_r (nI_1 _) (ih (l + 1) (by omega)))
  have key : ∀ m i, i + m = 12 → wX_countSpans_4 post (nI p) fdc fnn fsg fpt fpq fsc fsl fhc aN aP aL aT aS aD aV aPT aPQ aLQ aI aM aC aW aB aG aHN aHS aHR aSH aWQ aWL aNN aNC (m + 1) (nI (sg_sm (fun i => sg_sm (fun l => sv_bn (s i) l) 12) i)) (nI i) := by
    intro m
    induction m with
    | zero =>
      intro i h
      obtain rfl : i = 12 := by omega
      exact br_t (nI_le (b := 12) (Nat.le_refl _) (by decide)) hp
    | succ m ih =>
      intro i h
      refine br_f (nI_ge (b := 12) (by omega) (by decide)) (Exists.intro 13 ?_)
      exact inner _ i _ (by omega) (ih (i + 1) (by omega)) 12 0 rfl
  exact Exists.intro 13 (key 12 0 rfl)
theorem xs_score {p d st len tot w : Nat} (hp15 : p < 15) (hd : d < 32) (hst : st ≤ 32) (hlen : len ≤ 12) (htot : tot ≤ 384) (hw : w ≤ 405) (hL : aL d = nI len) (hW : aW p = nI w) {s : Nat → Int32} (hs : ∀ i, i < 12 → aB (12 * p + i) = s i)
    (h0 : tot = 0 → sv_ct s = 0) {post : SX → Prop}
    (hp : ∀ C' : Nat → Int32, C' p = nI (sv_sc (sv_own len st tot) w (sv_ct s)) → (∀ j, j ≠ p → C' j = aC j) → post (fdc, fnn, fsg, fpt, fpq, nI st, nI tot, fhc, aN, aP, aL, aT, aS, aD, aV, aPT, aPQ, aLQ, aI, upd aM p (sg_B (decide (0 < sv_ct s))), C', aW, aB, aG, aHN, aHS, aHR, aSH, aWQ, aWL, aNN, aNC)) :
    wpX_scoreSpans post (fdc, fnn, fsg, fpt, fpq, nI st, nI tot, fhc, aN, aP, aL, aT, aS, aD, aV, aPT, aPQ, aLQ, aI, aM, aC, aW, aB, aG, aHN, aHS, aHR, aSH, aWQ, aWL, aNN, aNC) (nI p) (nI d) := by
  have ep : (nI p).toNatClampNeg = p := nI_clamp (by omega)
  have ed : (nI d).toNatClampNeg = d := nI_clamp (by omega)
  have hv : vp_in (nI p) 15 := vp_in_nI hp15 (by omega)
  have hct := sv_ct_le s
  refine xs_count hp15 hs ?_
  generalize hn : sv_ct s = n at h0 hct hp
  have zero : n = 0 → post (fdc, fnn, fsg, fpt, fpq, nI st, nI tot, fhc, aN, aP, aL, aT, aS, aD, aV, aPT, aPQ, aLQ, aI, upd aM p 0, upd aC p 0, aW, aB, aG, aHN, aHS, aHR, aSH, aWQ, aWL, aNN, aNC) := by
    intro hz
    subst hz
    exact hp (upd aC p 0) (by rw [pk_us]; rfl) (fun j hj => pk_un hj)
  refine br_c (fun hc => ?_) (fun hc => ?_)
  · have hz : n = 0 := by have := (nI_leI (b := 0) (by omega) (by decide)).mp hc; omega
    refine ⟨hv, ?_⟩
    rw [ep]
    exact nm_r (by rw [sx_nb (Or.inl rfl)]) ⟨hv, nm_e (br_t hc (zero hz))⟩
  · have hz : ¬ n ≤ 0 := fun z => hc ((nI_leI (b := 0) (by omega) (by decide)).mpr z)
    have ht : 0 < tot := by omega
    have hq : 90 * len * st / tot ≤ 90 * len * st := Nat.div_le_self _ _
    have hm1 : 90 * len * st ≤ 90 * 12 * 32 := Nat.mul_le_mul (Nat.mul_le_mul (Nat.le_refl _) hlen) hst
    have ex : ((90 * (aL d)) * nI st) / nI tot = nI (90 * len * st / tot) := by
      rw [hL]
      show nI 90 * nI len * nI st / nI tot = _
      rw [pk_mul, pk_mul, pk_div (by omega) ht (by omega)]
    have ey : ((100 * nI n) + 30) + nI (90 * len * st / tot) = nI (100 * n + 30 + 90 * len * st / tot) := by
      show nI 100 * nI n + nI 30 + _ = _
      rw [pk_mul, nI_add, nI_add]
    have hpos : 0 < 100 * n + 30 + 90 * len * st / tot := Nat.lt_of_lt_of_le (by decide : 0 < 30) (Nat.le_trans (Nat.le_add_left 30 (100 * n)) (Nat.le_add_right _ _))
    have hm2 : w * 220 * n ≤ 405 * 220 * 144 := Nat.mul_le_mul (Nat.mul_le_mul hw (Nat.le_refl _)) hct
    have ez : ((aW p * 220) * nI n) / nI (100 * n + 30 + 90 * len * st / tot) = nI (w * 220 * n / (100 * n + 30 + 90 * len * st / tot)) := by
      rw [hW]
      show nI w * nI 220 * nI n / _ = _
      rw [pk_mul, pk_mul, pk_div (by omega) hpos (by omega)]
    have fin : post (fdc, fnn, fsg, fpt, fpq, nI st, nI tot, fhc, aN, aP, aL, aT, aS, aD, aV, aPT, aPQ, aLQ, aI, upd aM p 1, upd (upd aC p 0) p (nI (w * 220 * n / (100 * n + 30 + 90 * len * st / tot))), aW, aB, aG, aHN, aHS, aHR, aSH, aWQ, aWL, aNN, aNC) := by
      have := hp (upd (upd aC p 0) p (nI (w * 220 * n / (100 * n + 30 + 90 * len * st / tot)))) (by
        rw [pk_us]
        unfold sv_sc sv_own
        rw [if_neg (by omega), if_neg (by omega)]) (fun j hj => by rw [pk_un hj, pk_un hj])
      rw [decide_eq_true (by omega)] at this
      exact this
    refine ⟨hv, ?_⟩
    rw [ep]
    refine nm_r (by rw [sx_nb (Or.inr rfl)]) ⟨hv, nm_e (br_f hc (br_f (nI_nle ht (by omega)) ⟨vp_in_nI hd (by omega), nI_ne0 ht (by omega), ?_⟩))⟩
    rw [ed]
    refine nm_r ex ⟨hv, ?_⟩
    rw [ey]
    refine ⟨nI_ne0 hpos (by omega), hv, ?_⟩
    exact nm_r (by rw [ez]) fin
theorem xs_word {p d t len : Nat} (hp15 : p < 15) (hd : d < 32) (ht : t < 8) (hlen : len ≤ 12) (hL : aL d = nI len) {post : SX → Prop}
    (hp : post (fdc, fnn, fsg, fpt, fpq, fsc, fsl, fhc, aN, aP, aL, aT, aS, aD, aV, aPT, aPQ, aLQ, aI, aM, aC, upd aW p (aG t), sd_cy aB (12 * p) (sv_wd (fun i => aT (12 * d + i)) len t) 0 12, aG, aHN, aHS, aHR, aSH, aWQ, aWL, aNN, aNC)) : wpX_readWord post (fdc, fnn, fsg, fpt, fpq, fsc, fsl, fhc, aN, aP, aL, aT, aS, aD, aV, aPT, aPQ, aLQ, aI, aM, aC, aW, aB, aG, aHN, aHS, aHR, aSH, aWQ, aWL, aNN, aNC) (nI p) (nI t) (nI d) := by
  have ep : (nI p).toNatClampNeg = p := nI_clamp (by omega)
  have ed : (nI d).toNatClampNeg = d := nI_clamp (by omega)
  have et : (nI t).toNatClampNeg = t := nI_clamp (by omega)
  have key : ∀ m i, i + m = 12 → wX_readWord_3 post (nI p) (nI t) (nI d) fdc fnn fsg fpt fpq fsc fsl fhc (m + 1) (nI i) aN aP aL aT aS aD aV aPT aPQ aLQ aI aM aC aW (sd_cy aB (12 * p) (sv_wd (fun i => aT (12 * d + i)) len t) 0 i) aG aHN aHS aHR aSH aWQ aWL aNN aNC := by
    intro m
    induction m with
    | zero =>
      intro i h
      obtain rfl : i = 12 := by omega
      refine br_t (nI_le (b := 12) (Nat.le_refl _) (by decide)) ⟨vp_in_nI ht (by omega), vp_in_nI hp15 (by omega), ?_⟩
      rw [ep, et]
      exact nm_e hp
    | succ m ih =>
      intro i h
      have I := ih (i + 1) (by omega)
      have e1 : (nI d * 12 + nI i).toNatClampNeg = 12 * d + i := by rw [sx_ix]; exact nI_clamp (by omega)
      have e2 : (nI p * 12 + nI i).toNatClampNeg = 12 * p + i := by rw [sx_ix]; exact nI_clamp (by omega)
      have hv : vp_in (nI p * 12 + nI i) 180 := by rw [sx_ix]; exact vp_in_nI (by omega) (by omega)
      have e3 := sd_cy_s aB (12 * p) (sv_wd (fun i => aT (12 * d + i)) len t) 0 i
      rw [Nat.zero_add] at e3
      have zero : ¬ (i < len ∧ aT (12 * d + i) = nI t) → wX_readWord_41 post (wX_readWord_3 post (nI p) (nI t) (nI d) fdc fnn fsg fpt fpq fsc fsl fhc (m + 1)) (nI p) (nI t) (nI d) (nI i) fdc fnn fsg fpt fpq fsc fsl fhc aN aP aL aT aS aD aV aPT aPQ aLQ aI aM aC aW (sd_cy aB (12 * p) (sv_wd (fun i => aT (12 * d + i)) len t) 0 i) aG aHN aHS aHR aSH aWQ aWL aNN aNC := by
        intro hz
        have e4 : sv_wd (fun i => aT (12 * d + i)) len t i = 0 := by unfold sv_wd; rw [if_neg hz]
        rw [e4] at e3
        refine br_t rfl ⟨hv, ?_⟩
        rw [e2]
        exact nm_r e3 (nm_r (nI_1 _) I)
      refine br_f (nI_ge (b := 12) (by omega) (by decide)) ⟨vp_in_nI hd (by omega), br_c (fun hc => ?_) (fun hc => ⟨by rw [sx_ix]; exact vp_in_nI (by omega) (by omega), br_c (fun hx => ?_) (fun hx => ?_)⟩)⟩
      · rw [ed, hL] at hc
        have := (nI_leI (by omega) (by omega)).mp hc
        exact zero (by omega)
      · rw [ed, hL] at hc
        have hlt : ¬ len ≤ i := fun z => hc ((nI_leI (by omega) (by omega)).mpr z)
        rw [e1] at hx
        have e4 : sv_wd (fun i => aT (12 * d + i)) len t i = (1 : Int32) <<< (nI i &&& 31) := by unfold sv_wd; rw [if_pos ⟨by omega, hx⟩]
        rw [e4] at e3
        refine br_f (by decide) ⟨hv, ?_⟩
        rw [e2]
        exact nm_r e3 (nm_r (nI_1 _) I)
      · rw [e1] at hx
        exact zero (fun z => hx z.2)
  have k0 := key 12 0 rfl
  rw [sd_cy_0] at k0
  exact Exists.intro 13 k0
theorem xs_range {p d t pr : Nat} (hp15 : p < 15) (hd : d < 32) (ht : 1000 ≤ t) (ht2 : t < 11000) (hpr : pr < 100) (hP : aP d = nI pr) {post : SX → Prop}
    (hp : post (fdc, fnn, fsg, fpt, fpq, fsc, fsl, fhc, aN, aP, aL, aT, aS, aD, aV, aPT, aPQ, aLQ, aI, upd aM p (sg_B (decide ((t - 1000) / 100 ≤ pr ∧ pr ≤ (t - 1000) % 100))), upd aC p 0, aW, aB, aG, aHN, aHS, aHR, aSH, aWQ, aWL, aNN, aNC)) : wpX_readRange post (fdc, fnn, fsg, fpt, fpq, fsc, fsl, fhc, aN, aP, aL, aT, aS, aD, aV, aPT, aPQ, aLQ, aI, aM, aC, aW, aB, aG, aHN, aHS, aHR, aSH, aWQ, aWL, aNN, aNC) (nI p) (nI t) (nI d) := by
  have ep : (nI p).toNatClampNeg = p := nI_clamp (by omega)
  have ed : (nI d).toNatClampNeg = d := nI_clamp (by omega)
  have es : nI t - 1000 = nI (t - 1000) := by
    show nI t - nI 1000 = _
    rw [pk_sub ht]
  have eq : nI (t - 1000) / 100 = nI ((t - 1000) / 100) := by
    show nI (t - 1000) / nI 100 = _
    rw [pk_div (by omega) (by omega) (by omega)]
  have er : nI (t - 1000) - nI (t - 1000) / 100 * 100 = nI ((t - 1000) % 100) := by
    show nI (t - 1000) - nI (t - 1000) / nI 100 * nI 100 = _
    rw [pk_rem (by omega) (by omega) (by omega)]
  have hv : vp_in (nI p) 15 := vp_in_nI hp15 (by omega)
  have hvd : vp_in (nI d) 32 := vp_in_nI hd (by omega)
  have fal : ¬ ((t - 1000) / 100 ≤ pr ∧ pr ≤ (t - 1000) % 100) → wX_readRange_51 post (nI p) (nI p) fdc fnn fsg fpt fpq fsc fsl fhc aN aP aL aT aS aD aV aPT aPQ aLQ aI aM aC aW aB aG aHN aHS aHR aSH aWQ aWL aNN aNC := by
    intro h
    rw [decide_eq_false h] at hp
    refine ⟨hv, ?_⟩
    rw [ep]
    exact nm_r (by rw [sx_nb (Or.inl rfl)]; rfl) ⟨hv, nm_e hp⟩
  refine ⟨by decide, ?_⟩
  rw [es]
  refine nm_r eq ⟨by decide, nm_r er ⟨hvd, ?_⟩⟩
  rw [ed, hP]
  refine br_c (fun hc => ?_) (fun hc => ⟨hvd, br_c (fun hx => ?_) (fun hx => ?_)⟩)
  · have := (nI_ltI (by omega) (by omega)).mp hc
    exact fal (by omega)
  · have := (nI_ltI (by omega) (by omega)).mp hx
    exact fal (by omega)
  · have h1 : ¬ pr < (t - 1000) / 100 := fun z => hc ((nI_ltI (by omega) (by omega)).mpr z)
    have h2 : ¬ (t - 1000) % 100 < pr := fun z => hx ((nI_ltI (by omega) (by omega)).mpr z)
    rw [decide_eq_true (by omega)] at hp
    refine ⟨hv, ?_⟩
    rw [ep]
    exact nm_r (by rw [sx_nb (Or.inr rfl)]; rfl) ⟨hv, nm_e hp⟩
theorem xs_jm {a b t s1 s2 : Nat} {x y : Bool} (ha : a < 15) (hb : b < 15) (ht : t = 8 ∨ t = 9 ∨ t = 10) (hx : aM a = sg_B x) (hy : aM b = sg_B y) (h1 : aC a = nI s1) (h2 : aC b = nI s2) {post : SX → Prop}
    (hp : post (fdc, fnn, fsg, fpt, fpq, fsc, fsl, fhc, aN, aP, aL, aT, aS, aD, aV, aPT, aPQ, aLQ, aI, upd aM b (sg_B (sv_cm t x y)), upd aC b (nI (if t = 10 then s1 else s1 + s2)), aW, aB, aG, aHN, aHS, aHR, aSH, aWQ, aWL, aNN, aNC)) : wpX_joinMatches post (fdc, fnn, fsg, fpt, fpq, fsc, fsl, fhc, aN, aP, aL, aT, aS, aD, aV, aPT, aPQ, aLQ, aI, aM, aC, aW, aB, aG, aHN, aHS, aHR, aSH, aWQ, aWL, aNN, aNC) (nI a) (nI b) (nI t) := by
  have ea : (nI a).toNatClampNeg = a := nI_clamp (by omega)
  have eb : (nI b).toNatClampNeg = b := nI_clamp (by omega)
  have hva : vp_in (nI a) 15 := vp_in_nI ha (by omega)
  have hvb : vp_in (nI b) 15 := vp_in_nI hb (by omega)
  have f42 : t = 10 → ∀ z : Bool, sv_cm t x y = z → wX_joinMatches_42 post (nI a) (nI b) (sg_B z) (nI b) fdc fnn fsg fpt fpq fsc fsl fhc aN aP aL aT aS aD aV aPT aPQ aLQ aI aM aC aW aB aG aHN aHS aHR aSH aWQ aWL aNN aNC := by
    intro h10 z hz
    rw [hz, if_pos h10] at hp
    refine ⟨hvb, ?_⟩
    rw [eb]
    refine nm_r (by rw [sx_nb (sg_B_01 z)]) ⟨hva, hvb, ?_⟩
    rw [ea]
    exact nm_r (by rw [h1]) hp
  have f102 : t ≠ 10 → ∀ z : Bool, sv_cm t x y = z → wX_joinMatches_102 post (nI a) (nI b) (sg_B z) (nI b) fdc fnn fsg fpt fpq fsc fsl fhc aN aP aL aT aS aD aV aPT aPQ aLQ aI aM aC aW aB aG aHN aHS aHR aSH aWQ aWL aNN aNC := by
    intro h10 z hz
    rw [hz, if_neg h10] at hp
    refine ⟨hvb, ?_⟩
    rw [eb]
    refine nm_r (by rw [sx_nb (sg_B_01 z)]) ⟨hvb, hva, hvb, ?_⟩
    rw [ea]
    exact nm_r (by rw [h1, h2, nI_add, Nat.add_comm]) hp
  refine ⟨hva, ?_⟩
  rw [ea]
  refine nm_r hx ⟨hvb, ?_⟩
  rw [eb]
  refine nm_r hy ?_
  rcases ht with rfl | rfl | rfl
  · refine br_f (by decide) (br_t rfl ?_)
    cases x
    · exact br_t rfl (f102 (by decide) false rfl)
    · cases y
      · exact br_f (by decide) (br_t rfl (f102 (by decide) false rfl))
      · exact br_f (by decide) (br_f (by decide) (f102 (by decide) true rfl))
  · refine br_f (by decide) (br_f (by decide) ?_)
    cases x
    · cases y
      · exact br_t rfl (br_t rfl (f102 (by decide) false rfl))
      · exact br_t rfl (br_f (by decide) (f102 (by decide) true rfl))
    · exact br_f (by decide) (f102 (by decide) true (by cases y <;> rfl))
  · refine br_t rfl ?_
    cases x
    · exact br_t rfl (f42 rfl false (by cases y <;> rfl))
    · cases y
      · exact br_f (by decide) (br_t rfl (f42 rfl true rfl))
      · exact br_f (by decide) (br_f (by decide) (f42 rfl false rfl))
theorem xs_js {a b far : Nat} (ha : a < 15) (hb : b < 15) (hab : a ≠ b) (hfar : far = 1 ∨ far = 3) {sa sb : Nat → Int32} {w1 w2 : Nat} (hsa : ∀ i, i < 12 → aB (12 * a + i) = sa i) (hsb : ∀ i, i < 12 → aB (12 * b + i) = sb i)
    (hlow : ∀ i, i < 12 → ∀ j, j < i → bt (sa i) j = false) (h1 : aW a = nI w1) (h2 : aW b = nI w2) {post : SX → Prop}
    (hp : post (fdc, fnn, fsg, fpt, fpq, fsc, fsl, fhc, aN, aP, aL, aT, aS, aD, aV, aPT, aPQ, aLQ, aI, aM, aC, upd aW b (nI (w2 + w1)), sd_cy aB (12 * b) (fun i => sv_ch far (sa i) sb 12) 0 12, aG, aHN, aHS, aHR, aSH, aWQ, aWL, aNN, aNC)) : wpX_joinSpans post (fdc, fnn, fsg, fpt, fpq, fsc, fsl, fhc, aN, aP, aL, aT, aS, aD, aV, aPT, aPQ, aLQ, aI, aM, aC, aW, aB, aG, aHN, aHS, aHR, aSH, aWQ, aWL, aNN, aNC) (nI a) (nI b) (nI far) := by
  have ea : (nI a).toNatClampNeg = a := nI_clamp (by omega)
  have eb : (nI b).toNatClampNeg = b := nI_clamp (by omega)
  have hva : vp_in (nI a) 15 := vp_in_nI ha (by omega)
  have hvb : vp_in (nI b) 15 := vp_in_nI hb (by omega)
  have ix : ∀ c i, nI (12 * c) + nI i = nI (12 * c + i) := fun c i => nI_add _ _
  have l68 : ∀ (J15 : Int32 → (Nat → Int32) → (Nat → Int32) → (Nat → Int32) → (Nat → Int32) → (Nat → Int32) → (Nat → Int32) → (Nat → Int32) → (Nat → Int32) → (Nat → Int32) → (Nat → Int32) → (Nat → Int32) → (Nat → Int32) → (Nat → Int32) → (Nat → Int32) → (Nat → Int32) → (Nat → Int32) → (Nat → Int32) → (Nat → Int32) → (Nat → Int32) → (Nat → Int32) → (Nat → Int32) → (Nat → Int32) → (Nat → Int32) → (Nat → Int32) → Prop) (J29 : Int32 → Int32 → Prop) (B : Nat → Int32) (i j : Nat) (acc : Int32), j < 12 → (∀ k, j < k → k < 12 → B (12 * b + k) = sb k) →
      J29 (sv_or sb j acc (min far (11 - j))) (nI (j + 1)) → ∀ m k, k + m = min far (11 - j) →
      wX_joinSpans_68 post J15 J29 (nI a) (nI b) (nI far) (nI (12 * a)) (nI (12 * b)) (nI i) (nI j) 1 fdc fnn fsg fpt fpq fsc fsl fhc aN aP aL aT aS aD aV aPT aPQ aLQ aI aM aC aW B aG aHN aHS aHR aSH aWQ aWL aNN aNC (m + 1) (sv_or sb j acc k) (nI (j + 1 + k)) := by
    intro J15 J29 B i j acc hj hB hJ m
    induction m with
    | zero =>
      intro k hk
      have hk' : k = min far (11 - j) := by omega
      refine br_f (by decide) ?_
      rw [nI_add]
      rw [hk']
      rcases Nat.lt_or_ge (j + far) 12 with h | h
      · exact br_t (nI_lt (by omega) (by omega)) (nm_r (nI_1 _) hJ)
      · refine br_c (fun _ => nm_r (nI_1 _) hJ) (fun _ => br_t (nI_le (b := j + 1 + min far (11 - j)) (a := 12) (by omega) (by omega)) (nm_r (nI_1 _) hJ))
    | succ m ih =>
      intro k hk
      refine br_f (by decide) ?_
      rw [nI_add]
      refine br_f (nI_nlt (by omega) (by omega)) (br_f (nI_ge (b := 12) (by omega) (by decide)) ⟨by rw [ix]; exact vp_in_nI (by omega) (by omega), ?_⟩)
      rw [ix, nI_clamp (by omega), hB _ (by omega) (by omega)]
      exact nm_e (nm_r (nI_1 _) (ih (k + 1) (by omega)))
  have l29 : ∀ (J15 : Int32 → (Nat → Int32) → (Nat → Int32) → (Nat → Int32) → (Nat → Int32) → (Nat → Int32) → (Nat → Int32) → (Nat → Int32) → (Nat → Int32) → (Nat → Int32) → (Nat → Int32) → (Nat → Int32) → (Nat → Int32) → (Nat → Int32) → (Nat → Int32) → (Nat → Int32) → (Nat → Int32) → (Nat → Int32) → (Nat → Int32) → (Nat → Int32) → (Nat → Int32) → (Nat → Int32) → (Nat → Int32) → (Nat → Int32) → (Nat → Int32) → Prop) (B : Nat → Int32) (i : Nat), i < 12 → B (12 * a + i) = sa i → (∀ k, i < k → k < 12 → B (12 * b + k) = sb k) →
      J15 (nI (i + 1)) aN aP aL aT aS aD aV aPT aPQ aLQ aI aM aC aW (upd B (12 * b + i) (sv_ch far (sa i) sb 12)) aG aHN aHS aHR aSH aWQ aWL aNN aNC → ∀ m j, i ≤ j → j + m = 12 →
      wX_joinSpans_29 post J15 (nI a) (nI b) (nI far) (nI (12 * a)) (nI (12 * b)) (nI i) fdc fnn fsg fpt fpq fsc fsl fhc aN aP aL aT aS aD aV aPT aPQ aLQ aI aM aC aW B aG aHN aHS aHR aSH aWQ aWL aNN aNC (m + 1) (sv_ch far (sa i) sb j) (nI j) := by
    intro J15 B i hi hA hB hJ m
    induction m with
    | zero =>
      intro j hij h
      obtain rfl : j = 12 := by omega
      refine br_t (nI_le (b := 12) (Nat.le_refl _) (by decide)) ⟨by rw [ix]; exact vp_in_nI (by omega) (by omega), ?_⟩
      rw [ix, nI_clamp (by omega)]
      exact nm_e (nm_r (nI_1 _) hJ)
    | succ m ih =>
      intro j hij h
      have I := ih (j + 1) (by omega) (by omega)
      refine br_f (nI_ge (b := 12) (by omega) (by decide)) ⟨by rw [ix]; exact vp_in_nI (by omega) (by omega), ?_⟩
      rw [ix, nI_clamp (by omega), hA, sv_bit _ (show j < 32 by omega)]
      have es : sv_ch far (sa i) sb (j + 1) = if bt (sa i) j = true then sv_or sb j (sv_ch far (sa i) sb j) (min far (11 - j)) else sv_ch far (sa i) sb j := rfl
      unfold sv_bn
      by_cases hb' : bt (sa i) j = true
      · rw [if_pos hb'] at es ⊢
        rw [es] at I
        refine br_t rfl (nm_r (nI_1 _) (Exists.intro (min far (11 - j) + 1) ?_))
        exact l68 J15 _ B i j _ (by omega) (fun k hk => hB k (by omega)) I (min far (11 - j)) 0 (Nat.zero_add _)
      · rw [if_neg hb'] at es ⊢
        rw [es] at I
        exact br_f (by decide) (nm_r (nI_1 _) (Exists.intro 1 (br_t rfl (nm_r (nI_1 _) I))))
  have key : ∀ m i, i + m = 12 → wX_joinSpans_15 post (nI a) (nI b) (nI far) (nI (12 * a)) (nI (12 * b)) fdc fnn fsg fpt fpq fsc fsl fhc (m + 1) (nI i) aN aP aL aT aS aD aV aPT aPQ aLQ aI aM aC aW (sd_cy aB (12 * b) (fun i => sv_ch far (sa i) sb 12) 0 i) aG aHN aHS aHR aSH aWQ aWL aNN aNC := by
    intro m
    induction m with
    | zero =>
      intro i h
      obtain rfl : i = 12 := by omega
      refine br_t (nI_le (b := 12) (Nat.le_refl _) (by decide)) ⟨hvb, hva, hvb, ?_⟩
      rw [ea, eb]
      exact nm_r (by rw [h1, h2, nI_add]) hp
    | succ m ih =>
      intro i h
      have I := ih (i + 1) (by omega)
      have e3 := sd_cy_s aB (12 * b) (fun i => sv_ch far (sa i) sb 12) 0 i
      rw [Nat.zero_add] at e3
      rw [← e3] at I
      refine br_f (nI_ge (b := 12) (by omega) (by decide)) (Exists.intro (12 - i + 1) ?_)
      have := l29 _ (sd_cy aB (12 * b) (fun i => sv_ch far (sa i) sb 12) 0 i) i (by omega) (by rw [sd_cy_out (by omega)]; exact hsa i (by omega)) (fun k hk hk2 => by rw [sd_cy_out (by omega)]; exact hsb k hk2) I (12 - i) i (Nat.le_refl _) (by omega)
      rw [sv_ch_low i (hlow i (by omega))] at this
      exact this
  have k0 := key 12 0 rfl
  rw [sd_cy_0] at k0
  exact nm_r (sx_12 a) (nm_r (sx_12 b) (Exists.intro 13 k0))
end
end
section
theorem sq_shape {t : Nat} {ks0 ks : List Bool} (hj : 8 ≤ t ∧ t ≤ 12) (h : sq_bs t (some ks0) = some ks) : ∃ a b r, ks0 = a :: b :: r ∧ ((t = 11 ∨ t = 12) → a = true ∧ b = true) := by
  unfold sq_bs at h
  simp only at h
  rw [if_pos hj] at h
  match ks0, h with
  | a :: b :: r, h =>
    refine ⟨a, b, r, rfl, fun ht => ?_⟩
    have h6 : (if (t = 11 ∨ t = 12) ∧ ¬ (a = true ∧ b = true) then none else some (decide (t = 11 ∨ t = 12) :: r)) = some ks := h
    split at h6
    · exact absurd h6 (by simp)
    · rename_i hn
      exact Classical.byContradiction (fun z => hn ⟨ht, z⟩)
  | [a], h => exact absurd h (by simp)
  | [], h => exact absurd h (by simp)
theorem sv_shape {W : Nat → Nat} {own : Nat} {T : Nat → Int32} {len pr t : Nat} {l : List Nat} {ks : List Bool} (htk : sv_tks (t :: l)) (h : sq_b (t :: l) = some ks) (hj : 8 ≤ t ∧ t ≤ 12) :
    ∃ a b r, sv_ev W own T len pr l = a :: b :: r ∧ ((t = 11 ∨ t = 12) → a.1 = true ∧ b.1 = true) := by
  obtain ⟨ks0, h0⟩ := sq_b_tail h
  have h1 : sq_bs t (sq_b l) = some ks := h
  rw [h0] at h1
  obtain ⟨a, b, r, e, hs⟩ := sq_shape hj h1
  have hk := sv_kinds (W := W) (own := own) (T := T) (len := len) (pr := pr) (fun x hx => htk x (List.mem_cons_of_mem _ hx)) h0
  rw [e] at hk
  match sv_ev W own T len pr l, hk with
  | x :: y :: z, hk =>
    simp only [List.map_cons, List.cons.injEq] at hk
    refine ⟨x, y, z, rfl, fun ht => ?_⟩
    rw [hk.1, hk.2.1]; exact hs ht
  | [x], hk => exact absurd hk (by simp)
  | [], hk => exact absurd hk (by simp)
theorem xj_w1 {t : Nat} (h : t < 8) {post : Int32 → Prop} (hp : post 1) : wpX_isWord post (nI t) := br_f (nI_pos (by omega)) (br_f (nI_ge (b := 8) h (by decide)) hp)
theorem xj_w0 {t : Nat} (h : 8 ≤ t) (h2 : t < 2 ^ 31) {post : Int32 → Prop} (hp : post 0) : wpX_isWord post (nI t) := br_f (nI_pos h2) (br_t (nI_le (a := 8) h h2) hp)
theorem xj_r1 {t : Nat} (h : 1000 ≤ t) (h2 : t < 11000) {post : Int32 → Prop} (hp : post 1) : wpX_isRange post (nI t) := br_f (nI_nlt (b := 1000) h (by omega)) (br_f (nI_nlt (a := 10999) (by omega) (by decide)) hp)
theorem xj_r0 {t : Nat} (h : t < 1000) {post : Int32 → Prop} (hp : post 0) : wpX_isRange post (nI t) := br_t (nI_lt (b := 1000) h (by decide)) hp
theorem xj_s1 {t : Nat} (h : t = 11 ∨ t = 12) {post : Int32 → Prop} (hp : post 1) : wpX_isSpanJoin post (nI t) := by
  rcases h with rfl | rfl
  · exact br_t rfl hp
  · exact br_f (by decide) (br_t rfl hp)
theorem xj_s0 {t : Nat} (h : t < 2 ^ 31) (h1 : t ≠ 11) (h2 : t ≠ 12) {post : Int32 → Prop} (hp : post 0) : wpX_isSpanJoin post (nI t) :=
  br_f (fun z => h1 ((nI_eq (b := 11) h (by decide)).mp z)) (br_f (fun z => h2 ((nI_eq (b := 12) h (by decide)).mp z)) hp)
theorem xj_j1 {t : Nat} (h : 8 ≤ t) (h2 : t ≤ 12) {post : Int32 → Prop} (hp : post 1) : wpX_isJoin post (nI t) := br_f (nI_nlt (b := 8) h (by omega)) (br_f (nI_nlt (a := 12) h2 (by decide)) hp)
theorem xj_j0 {t : Nat} (h : t < 8 ∨ 12 < t) (h2 : t < 2 ^ 31) {post : Int32 → Prop} (hp : post 0) : wpX_isJoin post (nI t) := by
  rcases h with h | h
  · exact br_t (nI_lt (b := 8) h (by decide)) hp
  · exact br_f (nI_nlt (b := 8) (by omega) h2) (br_t (nI_lt (a := 12) h h2) hp)
theorem sv_tot0 {T : Nat → Int32} {s : Nat → Int32} (h : sv_so 0 s) : sv_ct s = 0 := sv_ct_0 (fun i hi => (h i hi).2 (Nat.zero_le _))
theorem sx_push {own : Nat} {M C V B M' C' V' B' : Nat → Int32} {st : List sv_T} {v : sv_T} (h : sx_R own M C V B st) (hf : sx_F st.length M C V B M' C' V' B') (he : sx_E own M' C' V' B' st.length v) : sx_R own M' C' V' B' (v :: st) := ⟨he, sx_R_fr hf h⟩
def sx_ans (b : Bool) (s : Nat) : Int32 := if b = true then nI s else -1
section
variable {fdc fnn fsg fpt fpq fsc fsl fhc : Int32} {aN aP aL aT aS aD aV aPT aPQ aLQ aI aM aC aW aB aG aHN aHS aHR aSH aWQ aWL aNN aNC : Nat → Int32}
theorem xj_pendingQuery {d st len tot pr fr : Nat} {l : List Nat} {W : Nat → Nat} (hd : d < 32) (hst : st ≤ 32) (hlen : len ≤ 12) (htot : tot ≤ 384) (hpr : pr < 100) (hL : aL d = nI len) (hP : aP d = nI pr)
    (hG : ∀ w, w < 8 → aG w = nI (W w)) (hW : ∀ w, w < 8 → W w ≤ 9) (h0 : tot = 0 → len = 0) (hl15 : l.length ≤ 15) (hfr : fr + l.length ≤ 12) (hH : sr_H aPQ fr l) (htk : sv_tks l) {kk : Bool} (hb : sq_b l = some [kk]) {post : Int32 → SX → Prop}
    (hp : ∀ M C V B : Nat → Int32, post (sx_ans (sv_rm W (sv_own len st tot) (fun i => aT (12 * d + i)) len pr l) (sv_rs W (sv_own len st tot) (fun i => aT (12 * d + i)) len pr l)) (fdc, fnn, fsg, fpt, fpq, nI st, nI tot, fhc, aN, aP, aL, aT, aS, aD, aV, aPT, aPQ, aLQ, aI, M, C, V, B, aG, aHN, aHS, aHR, aSH, aWQ, aWL, aNN, aNC)) :
    wpX_judge__pendingQuery post (fdc, fnn, fsg, fpt, fpq, nI st, nI tot, fhc, aN, aP, aL, aT, aS, aD, aV, aPT, aPQ, aLQ, aI, aM, aC, aW, aB, aG, aHN, aHS, aHR, aSH, aWQ, aWL, aNN, aNC) (nI fr) (nI l.length) (nI d) := by
  generalize hown : sv_own len st tot = own at hp
  generalize hT : (fun i => aT (12 * d + i)) = T at hp
  have key : ∀ i, i ≤ l.length → ∀ M C V B : Nat → Int32, sx_R own M C V B (sv_ev W own T len pr (l.drop i)) →
      wX_judge__pendingQuery_8 post (nI fr) (nI d) (i + 1) (nI (sv_ev W own T len pr (l.drop i)).length) (nI i - 1) fdc fnn fsg fpt fpq (nI st) (nI tot) fhc aN aP aL aT aS aD aV aPT aPQ aLQ aI M C V B aG aHN aHS aHR aSH aWQ aWL aNN aNC := by
    intro i
    induction i with
    | zero =>
      intro _ M C V B hR
      rw [List.drop_zero] at hR
      obtain ⟨v, hv⟩ := sv_one (W := W) (own := own) (T := T) (len := len) (pr := pr) htk hb
      have hp' := hp M C V B
      unfold sv_rm sv_rs at hp'
      rw [hv] at hp' hR
      obtain ⟨⟨e1, e2, _⟩, _⟩ := hR
      have e1' : M 0 = sg_B (sv_mt v) := e1
      have e2' : C 0 = nI (sv_ss own v) := e2
      have hp2 : post (sx_ans (sv_mt v) (sv_ss own v)) (fdc, fnn, fsg, fpt, fpq, nI st, nI tot, fhc, aN, aP, aL, aT, aS, aD, aV, aPT, aPQ, aLQ, aI, M, C, V, B, aG, aHN, aHS, aHR, aSH, aWQ, aWL, aNN, aNC) := hp'
      refine br_t (by decide) ?_
      rw [e1', e2']
      cases hm : sv_mt v with
      | true =>
        rw [hm] at hp2
        exact br_f (by decide) hp2
      | false =>
        rw [hm] at hp2
        exact br_t rfl hp2
    | succ i ih =>
      intro hi M C V B hR
      have hdr := sr_drop (l := l) (i := i) (by omega)
      have hmem := sr_getD_mem (l := l) (i := i) (by omega)
      have hQ := hH i (by omega)
      have hbd := sq_b_drop hb i (by omega)
      obtain ⟨ks, hks⟩ := hbd
      have htd : sv_tks (l.drop i) := fun x hx => htk x (List.mem_of_mem_drop hx)
      have ht := htk _ hmem
      have ih' := ih (by omega)
      rw [hdr] at hks htd ih'
      generalize l.getD i 0 = t at hQ ht hks htd ih'
      generalize hrest : l.drop (i + 1) = rest at hR hks htd ih'
      have hlr : rest.length + (i + 1) = l.length := by rw [← hrest, List.length_drop]; omega
      have hsl : (sv_ev W own T len pr rest).length ≤ rest.length := by
        obtain ⟨ks0, hk0⟩ := sq_b_tail hks
        have := sv_kinds (W := W) (own := own) (T := T) (len := len) (pr := pr) (fun x hx => htd x (List.mem_cons_of_mem _ hx)) hk0
        have h2 := sq_b_len hk0
        rw [← this, List.length_map] at h2
        exact h2
      have hpt := sv_ev_pt (own := own) (T := T) (len := len) (pr := pr) hW rest
      have hso := sv_ev_so (W := W) (own := own) (T := T) (len := len) (pr := pr) rest
      have ht2 : t < 2 ^ 31 := by unfold sv_tk at ht; omega
      rw [nI_pred]
      refine br_f (nI_pos (by omega)) ⟨by rw [nI_add]; exact vp_in_nI (by omega) (by omega), ?_⟩
      rw [nI_add, nI_clamp (by omega)]
      refine nm_r hQ ?_
      have em : nI i + (-1) = nI i - 1 := (Int32.sub_eq_add_neg _ _).symm
      have est : sv_ev W own T len pr (t :: rest) = sv_st W own T len pr t (sv_ev W own T len pr rest) := rfl
      rw [est] at ih'
      by_cases hw : t < 8
      · refine xj_w1 hw (br_f (by decide) ?_)
        have e2 : sv_st W own T len pr t (sv_ev W own T len pr rest) = (true, sv_wd T len t, W t, false, 0) :: sv_ev W own T len pr rest := by unfold sv_st; rw [if_pos hw]
        rw [e2] at ih'
        generalize sv_ev W own T len pr rest = E at hR hsl hpt hso ih'
        refine xs_word (by omega) hd hw hlen hL ?_
        rw [hT]
        refine xs_score (w := W t) (s := sv_wd T len t) (by omega) hd hst hlen htot (by have := hW t hw; omega) hL (by rw [pk_us]; exact hG t hw) (fun i hi => by rw [sd_cy_in hi, Nat.zero_add]) (fun hz => by
          have hl0 := h0 hz
          subst hl0
          exact sv_tot0 (T := T) (sv_wd_so T 0 t)) ?_
        intro C' hC1 hC2
        refine nm_r (nI_1 _) (nm_r em (ih' _ _ _ _ (sx_push hR ?_ ⟨?_, ?_, fun _ => ⟨?_, ?_⟩⟩)))
        · intro p hp3
          refine ⟨pk_un (by omega), hC2 p (by omega), pk_un (by omega), fun i hi => sd_cy_out (by omega)⟩
        · rw [pk_us]; rfl
        · rw [hC1, hown]; rfl
        · rw [pk_us]; exact hG t hw
        · intro i hi
          rw [sd_cy_in hi, Nat.zero_add]
      · refine xj_w0 (by omega) ht2 (br_t rfl ?_)
        by_cases hr : 1000 ≤ t
        · have ht3 : t < 11000 := by unfold sv_tk at ht; omega
          refine xj_r1 hr ht3 (br_f (by decide) ?_)
          have e2 : sv_st W own T len pr t (sv_ev W own T len pr rest) = (false, fun _ => 0, 0, decide ((t - 1000) / 100 ≤ pr ∧ pr ≤ (t - 1000) % 100), 0) :: sv_ev W own T len pr rest := by unfold sv_st; rw [if_neg hw, if_pos hr]
          rw [e2] at ih'
          generalize sv_ev W own T len pr rest = E at hR hsl hpt hso ih'
          refine xs_range (by omega) hd hr ht3 hpr hP ?_
          refine nm_r (nI_1 _) (nm_r em (ih' _ _ _ _ (sx_push hR ?_ ⟨?_, ?_, fun z => absurd (show false = true from z) (by decide)⟩)))
          · intro p hp3
            exact ⟨pk_un (by omega), pk_un (by omega), rfl, fun i hi => rfl⟩
          · rw [pk_us]; rfl
          · rw [pk_us]; rfl
        · have hj : 8 ≤ t ∧ t ≤ 12 := by unfold sv_tk at ht; omega
          refine xj_r0 (by omega) (br_t rfl ?_)
          obtain ⟨a, b, r, hE, hsp⟩ := sv_shape (W := W) (own := own) (T := T) (len := len) (pr := pr) htd hks hj
          have e2 : sv_st W own T len pr t (sv_ev W own T len pr rest) = sv_j own t a b :: r := by unfold sv_st; rw [if_neg hw, if_neg hr, hE]
          rw [e2] at ih'
          rw [hE] at hR hsl hpt hso ⊢
          rw [List.length_cons, List.length_cons] at hsl ⊢
          obtain ⟨ea, eb, hRr⟩ := hR
          rw [List.length_cons] at ea
          have hpt' : sv_pt (a :: b :: r) = 3 * a.2.2.1 + a.2.2.2.2 + (3 * b.2.2.1 + b.2.2.2.2 + sv_pt r) := rfl
          refine br_f (nI_nlt (b := 2) (by omega) (by omega)) (nm_r (pk_m1 _) ?_)
          rw [nI_pred]
          by_cases hs : t = 11 ∨ t = 12
          · refine xj_s1 hs (br_f (by decide) ?_)
            obtain ⟨ha1, hb1⟩ := hsp hs
            obtain ⟨hsa, hsb, _⟩ := hso
            have e3 : sv_j own t a b = (true, fun i => sv_ch (if t = 11 then 1 else 3) (a.2.1 i) b.2.1 12, b.2.2.1 + a.2.2.1, false, 0) := by unfold sv_j; rw [if_pos (by omega)]
            have hso2 := sv_j_so (own := own) (t := t) hsa hsb
            rw [e3] at ih' hso2
            have go : ∀ far : Nat, (far = 1 ∨ far = 3) → (if t = 11 then 1 else 3) = far → wX_judge__pendingQuery_113 post (wX_judge__pendingQuery_8 post (nI fr) (nI d) (i + 1)) (nI fr) (nI d) (nI (r.length + 1)) (nI i) (nI far) (nI r.length) (nI (r.length + 1)) fdc fnn fsg fpt fpq (nI st) (nI tot) fhc aN aP aL aT aS aD aV aPT aPQ aLQ aI M C V B aG aHN aHS aHR aSH aWQ aWL aNN aNC := by
              intro far hfar hf2
              rw [hf2] at ih' hso2
              refine xs_js (sa := a.2.1) (sb := b.2.1) (w1 := a.2.2.1) (w2 := b.2.2.1) (by omega) (by omega) (by omega) hfar (ea.2.2 ha1).2 (eb.2.2 hb1).2 (fun i hi => (hsa i hi).1) (ea.2.2 ha1).1 (eb.2.2 hb1).1 ?_
              show wpX_scoreSpans _ _ (nI (r.length + 1) - 1) (nI d)
              rw [nI_pred]
              refine xs_score (w := b.2.2.1 + a.2.2.1) (s := fun i => sv_ch far (a.2.1 i) b.2.1 12) (by omega) hd hst hlen htot (by omega) hL pk_us (fun i hi => by rw [sd_cy_in hi, Nat.zero_add]) (fun hz => by
                have hl0 := h0 hz
                subst hl0
                exact sv_tot0 (T := T) hso2) ?_
              intro C' hC1 hC2
              refine nm_r em (ih' _ _ _ _ (sx_push hRr ?_ ⟨?_, ?_, fun _ => ⟨pk_us, ?_⟩⟩))
              · intro p hp3
                exact ⟨pk_un (by omega), hC2 p (by omega), pk_un (by omega), fun i hi => sd_cy_out (by omega)⟩
              · rw [pk_us]; rfl
              · rw [hC1, hown]; rfl
              · intro i hi
                rw [sd_cy_in hi, Nat.zero_add]
            by_cases h11 : t = 11
            · exact br_t (by rw [h11]; rfl) (go 1 (Or.inl rfl) (if_pos h11))
            · exact br_f (fun z => h11 ((nI_eq (b := 11) ht2 (by decide)).mp z)) (go 3 (Or.inr rfl) (if_neg h11))
          · refine xj_s0 ht2 (by omega) (by omega) (br_t rfl ?_)
            have e3 : sv_j own t a b = (false, fun _ => 0, 0, sv_cm t (sv_mt a) (sv_mt b), if t = 10 then sv_ss own a else sv_ss own a + sv_ss own b) := by unfold sv_j; rw [if_neg (by omega)]
            rw [e3] at ih'
            refine xs_jm (a := r.length + 1) (b := r.length) (x := sv_mt a) (y := sv_mt b) (s1 := sv_ss own a) (s2 := sv_ss own b) (by omega) (by omega) (by omega) ea.1 eb.1 ea.2.1 eb.2.1 ?_
            refine nm_r em (ih' _ _ _ _ (sx_push hRr ?_ ⟨?_, ?_, fun z => absurd (show false = true from z) (by decide)⟩))
            · intro p hp3
              exact ⟨pk_un (by omega), pk_un (by omega), rfl, fun i hi => rfl⟩
            · rw [pk_us]; rfl
            · rw [pk_us]; rfl
  have k0 := key l.length (Nat.le_refl _) aM aC aW aB (by rw [List.drop_length]; exact trivial)
  rw [List.drop_length] at k0
  exact nm_e (Exists.intro (l.length + 1) k0)
end
section
variable {fdc fnn fsg fpt fpq fsc fsl fhc : Int32} {aN aP aL aT aS aD aV aPT aPQ aLQ aI aM aC aW aB aG aHN aHS aHR aSH aWQ aWL aNN aNC : Nat → Int32}
theorem xj_likeQuery {d st len tot pr fr : Nat} {l : List Nat} {W : Nat → Nat} (hd : d < 32) (hst : st ≤ 32) (hlen : len ≤ 12) (htot : tot ≤ 384) (hpr : pr < 100) (hL : aL d = nI len) (hP : aP d = nI pr)
    (hG : ∀ w, w < 8 → aG w = nI (W w)) (hW : ∀ w, w < 8 → W w ≤ 9) (h0 : tot = 0 → len = 0) (hl15 : l.length ≤ 15) (hfr : fr + l.length ≤ 15) (hH : sr_H aLQ fr l) (htk : sv_tks l) {kk : Bool} (hb : sq_b l = some [kk]) {post : Int32 → SX → Prop}
    (hp : ∀ M C V B : Nat → Int32, post (sx_ans (sv_rm W (sv_own len st tot) (fun i => aT (12 * d + i)) len pr l) (sv_rs W (sv_own len st tot) (fun i => aT (12 * d + i)) len pr l)) (fdc, fnn, fsg, fpt, fpq, nI st, nI tot, fhc, aN, aP, aL, aT, aS, aD, aV, aPT, aPQ, aLQ, aI, M, C, V, B, aG, aHN, aHS, aHR, aSH, aWQ, aWL, aNN, aNC)) :
    wpX_judge__likeQuery post (fdc, fnn, fsg, fpt, fpq, nI st, nI tot, fhc, aN, aP, aL, aT, aS, aD, aV, aPT, aPQ, aLQ, aI, aM, aC, aW, aB, aG, aHN, aHS, aHR, aSH, aWQ, aWL, aNN, aNC) (nI fr) (nI l.length) (nI d) := by
  generalize hown : sv_own len st tot = own at hp
  generalize hT : (fun i => aT (12 * d + i)) = T at hp
  have key : ∀ i, i ≤ l.length → ∀ M C V B : Nat → Int32, sx_R own M C V B (sv_ev W own T len pr (l.drop i)) →
      wX_judge__likeQuery_8 post (nI fr) (nI d) (i + 1) (nI (sv_ev W own T len pr (l.drop i)).length) (nI i - 1) fdc fnn fsg fpt fpq (nI st) (nI tot) fhc aN aP aL aT aS aD aV aPT aPQ aLQ aI M C V B aG aHN aHS aHR aSH aWQ aWL aNN aNC := by
    intro i
    induction i with
    | zero =>
      intro _ M C V B hR
      rw [List.drop_zero] at hR
      obtain ⟨v, hv⟩ := sv_one (W := W) (own := own) (T := T) (len := len) (pr := pr) htk hb
      have hp' := hp M C V B
      unfold sv_rm sv_rs at hp'
      rw [hv] at hp' hR
      obtain ⟨⟨e1, e2, _⟩, _⟩ := hR
      have e1' : M 0 = sg_B (sv_mt v) := e1
      have e2' : C 0 = nI (sv_ss own v) := e2
      have hp2 : post (sx_ans (sv_mt v) (sv_ss own v)) (fdc, fnn, fsg, fpt, fpq, nI st, nI tot, fhc, aN, aP, aL, aT, aS, aD, aV, aPT, aPQ, aLQ, aI, M, C, V, B, aG, aHN, aHS, aHR, aSH, aWQ, aWL, aNN, aNC) := hp'
      refine br_t (by decide) ?_
      rw [e1', e2']
      cases hm : sv_mt v with
      | true =>
        rw [hm] at hp2
        exact br_f (by decide) hp2
      | false =>
        rw [hm] at hp2
        exact br_t rfl hp2
    | succ i ih =>
      intro hi M C V B hR
      have hdr := sr_drop (l := l) (i := i) (by omega)
      have hmem := sr_getD_mem (l := l) (i := i) (by omega)
      have hQ := hH i (by omega)
      have hbd := sq_b_drop hb i (by omega)
      obtain ⟨ks, hks⟩ := hbd
      have htd : sv_tks (l.drop i) := fun x hx => htk x (List.mem_of_mem_drop hx)
      have ht := htk _ hmem
      have ih' := ih (by omega)
      rw [hdr] at hks htd ih'
      generalize l.getD i 0 = t at hQ ht hks htd ih'
      generalize hrest : l.drop (i + 1) = rest at hR hks htd ih'
      have hlr : rest.length + (i + 1) = l.length := by rw [← hrest, List.length_drop]; omega
      have hsl : (sv_ev W own T len pr rest).length ≤ rest.length := by
        obtain ⟨ks0, hk0⟩ := sq_b_tail hks
        have := sv_kinds (W := W) (own := own) (T := T) (len := len) (pr := pr) (fun x hx => htd x (List.mem_cons_of_mem _ hx)) hk0
        have h2 := sq_b_len hk0
        rw [← this, List.length_map] at h2
        exact h2
      have hpt := sv_ev_pt (own := own) (T := T) (len := len) (pr := pr) hW rest
      have hso := sv_ev_so (W := W) (own := own) (T := T) (len := len) (pr := pr) rest
      have ht2 : t < 2 ^ 31 := by unfold sv_tk at ht; omega
      rw [nI_pred]
      refine br_f (nI_pos (by omega)) ⟨by rw [nI_add]; exact vp_in_nI (by omega) (by omega), ?_⟩
      rw [nI_add, nI_clamp (by omega)]
      refine nm_r hQ ?_
      have em : nI i + (-1) = nI i - 1 := (Int32.sub_eq_add_neg _ _).symm
      have est : sv_ev W own T len pr (t :: rest) = sv_st W own T len pr t (sv_ev W own T len pr rest) := rfl
      rw [est] at ih'
      by_cases hw : t < 8
      · refine xj_w1 hw (br_f (by decide) ?_)
        have e2 : sv_st W own T len pr t (sv_ev W own T len pr rest) = (true, sv_wd T len t, W t, false, 0) :: sv_ev W own T len pr rest := by unfold sv_st; rw [if_pos hw]
        rw [e2] at ih'
        generalize sv_ev W own T len pr rest = E at hR hsl hpt hso ih'
        refine xs_word (by omega) hd hw hlen hL ?_
        rw [hT]
        refine xs_score (w := W t) (s := sv_wd T len t) (by omega) hd hst hlen htot (by have := hW t hw; omega) hL (by rw [pk_us]; exact hG t hw) (fun i hi => by rw [sd_cy_in hi, Nat.zero_add]) (fun hz => by
          have hl0 := h0 hz
          subst hl0
          exact sv_tot0 (T := T) (sv_wd_so T 0 t)) ?_
        intro C' hC1 hC2
        refine nm_r (nI_1 _) (nm_r em (ih' _ _ _ _ (sx_push hR ?_ ⟨?_, ?_, fun _ => ⟨?_, ?_⟩⟩)))
        · intro p hp3
          refine ⟨pk_un (by omega), hC2 p (by omega), pk_un (by omega), fun i hi => sd_cy_out (by omega)⟩
        · rw [pk_us]; rfl
        · rw [hC1, hown]; rfl
        · rw [pk_us]; exact hG t hw
        · intro i hi
          rw [sd_cy_in hi, Nat.zero_add]
      · refine xj_w0 (by omega) ht2 (br_t rfl ?_)
        by_cases hr : 1000 ≤ t
        · have ht3 : t < 11000 := by unfold sv_tk at ht; omega
          refine xj_r1 hr ht3 (br_f (by decide) ?_)
          have e2 : sv_st W own T len pr t (sv_ev W own T len pr rest) = (false, fun _ => 0, 0, decide ((t - 1000) / 100 ≤ pr ∧ pr ≤ (t - 1000) % 100), 0) :: sv_ev W own T len pr rest := by unfold sv_st; rw [if_neg hw, if_pos hr]
          rw [e2] at ih'
          generalize sv_ev W own T len pr rest = E at hR hsl hpt hso ih'
          refine xs_range (by omega) hd hr ht3 hpr hP ?_
          refine nm_r (nI_1 _) (nm_r em (ih' _ _ _ _ (sx_push hR ?_ ⟨?_, ?_, fun z => absurd (show false = true from z) (by decide)⟩)))
          · intro p hp3
            exact ⟨pk_un (by omega), pk_un (by omega), rfl, fun i hi => rfl⟩
          · rw [pk_us]; rfl
          · rw [pk_us]; rfl
        · have hj : 8 ≤ t ∧ t ≤ 12 := by unfold sv_tk at ht; omega
          refine xj_r0 (by omega) (br_t rfl ?_)
          obtain ⟨a, b, r, hE, hsp⟩ := sv_shape (W := W) (own := own) (T := T) (len := len) (pr := pr) htd hks hj
          have e2 : sv_st W own T len pr t (sv_ev W own T len pr rest) = sv_j own t a b :: r := by unfold sv_st; rw [if_neg hw, if_neg hr, hE]
          rw [e2] at ih'
          rw [hE] at hR hsl hpt hso ⊢
          rw [List.length_cons, List.length_cons] at hsl ⊢
          obtain ⟨ea, eb, hRr⟩ := hR
          rw [List.length_cons] at ea
          have hpt' : sv_pt (a :: b :: r) = 3 * a.2.2.1 + a.2.2.2.2 + (3 * b.2.2.1 + b.2.2.2.2 + sv_pt r) := rfl
          refine br_f (nI_nlt (b := 2) (by omega) (by omega)) (nm_r (pk_m1 _) ?_)
          rw [nI_pred]
          by_cases hs : t = 11 ∨ t = 12
          · refine xj_s1 hs (br_f (by decide) ?_)
            obtain ⟨ha1, hb1⟩ := hsp hs
            obtain ⟨hsa, hsb, _⟩ := hso
            have e3 : sv_j own t a b = (true, fun i => sv_ch (if t = 11 then 1 else 3) (a.2.1 i) b.2.1 12, b.2.2.1 + a.2.2.1, false, 0) := by unfold sv_j; rw [if_pos (by omega)]
            have hso2 := sv_j_so (own := own) (t := t) hsa hsb
            rw [e3] at ih' hso2
            have go : ∀ far : Nat, (far = 1 ∨ far = 3) → (if t = 11 then 1 else 3) = far → wX_judge__likeQuery_113 post (wX_judge__likeQuery_8 post (nI fr) (nI d) (i + 1)) (nI fr) (nI d) (nI (r.length + 1)) (nI i) (nI far) (nI r.length) (nI (r.length + 1)) fdc fnn fsg fpt fpq (nI st) (nI tot) fhc aN aP aL aT aS aD aV aPT aPQ aLQ aI M C V B aG aHN aHS aHR aSH aWQ aWL aNN aNC := by
              intro far hfar hf2
              rw [hf2] at ih' hso2
              refine xs_js (sa := a.2.1) (sb := b.2.1) (w1 := a.2.2.1) (w2 := b.2.2.1) (by omega) (by omega) (by omega) hfar (ea.2.2 ha1).2 (eb.2.2 hb1).2 (fun i hi => (hsa i hi).1) (ea.2.2 ha1).1 (eb.2.2 hb1).1 ?_
              show wpX_scoreSpans _ _ (nI (r.length + 1) - 1) (nI d)
              rw [nI_pred]
              refine xs_score (w := b.2.2.1 + a.2.2.1) (s := fun i => sv_ch far (a.2.1 i) b.2.1 12) (by omega) hd hst hlen htot (by omega) hL pk_us (fun i hi => by rw [sd_cy_in hi, Nat.zero_add]) (fun hz => by
                have hl0 := h0 hz
                subst hl0
                exact sv_tot0 (T := T) hso2) ?_
              intro C' hC1 hC2
              refine nm_r em (ih' _ _ _ _ (sx_push hRr ?_ ⟨?_, ?_, fun _ => ⟨pk_us, ?_⟩⟩))
              · intro p hp3
                exact ⟨pk_un (by omega), hC2 p (by omega), pk_un (by omega), fun i hi => sd_cy_out (by omega)⟩
              · rw [pk_us]; rfl
              · rw [hC1, hown]; rfl
              · intro i hi
                rw [sd_cy_in hi, Nat.zero_add]
            by_cases h11 : t = 11
            · exact br_t (by rw [h11]; rfl) (go 1 (Or.inl rfl) (if_pos h11))
            · exact br_f (fun z => h11 ((nI_eq (b := 11) ht2 (by decide)).mp z)) (go 3 (Or.inr rfl) (if_neg h11))
          · refine xj_s0 ht2 (by omega) (by omega) (br_t rfl ?_)
            have e3 : sv_j own t a b = (false, fun _ => 0, 0, sv_cm t (sv_mt a) (sv_mt b), if t = 10 then sv_ss own a else sv_ss own a + sv_ss own b) := by unfold sv_j; rw [if_neg (by omega)]
            rw [e3] at ih'
            refine xs_jm (a := r.length + 1) (b := r.length) (x := sv_mt a) (y := sv_mt b) (s1 := sv_ss own a) (s2 := sv_ss own b) (by omega) (by omega) (by omega) ea.1 eb.1 ea.2.1 eb.2.1 ?_
            refine nm_r em (ih' _ _ _ _ (sx_push hRr ?_ ⟨?_, ?_, fun z => absurd (show false = true from z) (by decide)⟩))
            · intro p hp3
              exact ⟨pk_un (by omega), pk_un (by omega), rfl, fun i hi => rfl⟩
            · rw [pk_us]; rfl
            · rw [pk_us]; rfl
  have k0 := key l.length (Nat.le_refl _) aM aC aW aB (by rw [List.drop_length]; exact trivial)
  rw [List.drop_length] at k0
  exact nm_e (Exists.intro (l.length + 1) k0)
end
section
variable {fdc fnn fsg fpt fpq fsc fsl fhc : Int32} {aN aP aL aT aS aD aV aPT aPQ aLQ aI aM aC aW aB aG aHN aHS aHR aSH aWQ aWL aNN aNC : Nat → Int32}
theorem xj_watchQuery {d st len tot pr fr : Nat} {l : List Nat} {W : Nat → Nat} (hd : d < 32) (hst : st ≤ 32) (hlen : len ≤ 12) (htot : tot ≤ 384) (hpr : pr < 100) (hL : aL d = nI len) (hP : aP d = nI pr)
    (hG : ∀ w, w < 8 → aG w = nI (W w)) (hW : ∀ w, w < 8 → W w ≤ 9) (h0 : tot = 0 → len = 0) (hl15 : l.length ≤ 15) (hfr : fr + l.length ≤ 48) (hH : sr_H aWQ fr l) (htk : sv_tks l) {kk : Bool} (hb : sq_b l = some [kk]) {post : Int32 → SX → Prop}
    (hp : ∀ M C V B : Nat → Int32, post (sx_ans (sv_rm W (sv_own len st tot) (fun i => aT (12 * d + i)) len pr l) (sv_rs W (sv_own len st tot) (fun i => aT (12 * d + i)) len pr l)) (fdc, fnn, fsg, fpt, fpq, nI st, nI tot, fhc, aN, aP, aL, aT, aS, aD, aV, aPT, aPQ, aLQ, aI, M, C, V, B, aG, aHN, aHS, aHR, aSH, aWQ, aWL, aNN, aNC)) :
    wpX_judge__watchQuery post (fdc, fnn, fsg, fpt, fpq, nI st, nI tot, fhc, aN, aP, aL, aT, aS, aD, aV, aPT, aPQ, aLQ, aI, aM, aC, aW, aB, aG, aHN, aHS, aHR, aSH, aWQ, aWL, aNN, aNC) (nI fr) (nI l.length) (nI d) := by
  generalize hown : sv_own len st tot = own at hp
  generalize hT : (fun i => aT (12 * d + i)) = T at hp
  have key : ∀ i, i ≤ l.length → ∀ M C V B : Nat → Int32, sx_R own M C V B (sv_ev W own T len pr (l.drop i)) →
      wX_judge__watchQuery_8 post (nI fr) (nI d) (i + 1) (nI (sv_ev W own T len pr (l.drop i)).length) (nI i - 1) fdc fnn fsg fpt fpq (nI st) (nI tot) fhc aN aP aL aT aS aD aV aPT aPQ aLQ aI M C V B aG aHN aHS aHR aSH aWQ aWL aNN aNC := by
    intro i
    induction i with
    | zero =>
      intro _ M C V B hR
      rw [List.drop_zero] at hR
      obtain ⟨v, hv⟩ := sv_one (W := W) (own := own) (T := T) (len := len) (pr := pr) htk hb
      have hp' := hp M C V B
      unfold sv_rm sv_rs at hp'
      rw [hv] at hp' hR
      obtain ⟨⟨e1, e2, _⟩, _⟩ := hR
      have e1' : M 0 = sg_B (sv_mt v) := e1
      have e2' : C 0 = nI (sv_ss own v) := e2
      have hp2 : post (sx_ans (sv_mt v) (sv_ss own v)) (fdc, fnn, fsg, fpt, fpq, nI st, nI tot, fhc, aN, aP, aL, aT, aS, aD, aV, aPT, aPQ, aLQ, aI, M, C, V, B, aG, aHN, aHS, aHR, aSH, aWQ, aWL, aNN, aNC) := hp'
      refine br_t (by decide) ?_
      rw [e1', e2']
      cases hm : sv_mt v with
      | true =>
        rw [hm] at hp2
        exact br_f (by decide) hp2
      | false =>
        rw [hm] at hp2
        exact br_t rfl hp2
    | succ i ih =>
      intro hi M C V B hR
      have hdr := sr_drop (l := l) (i := i) (by omega)
      have hmem := sr_getD_mem (l := l) (i := i) (by omega)
      have hQ := hH i (by omega)
      have hbd := sq_b_drop hb i (by omega)
      obtain ⟨ks, hks⟩ := hbd
      have htd : sv_tks (l.drop i) := fun x hx => htk x (List.mem_of_mem_drop hx)
      have ht := htk _ hmem
      have ih' := ih (by omega)
      rw [hdr] at hks htd ih'
      generalize l.getD i 0 = t at hQ ht hks htd ih'
      generalize hrest : l.drop (i + 1) = rest at hR hks htd ih'
      have hlr : rest.length + (i + 1) = l.length := by rw [← hrest, List.length_drop]; omega
      have hsl : (sv_ev W own T len pr rest).length ≤ rest.length := by
        obtain ⟨ks0, hk0⟩ := sq_b_tail hks
        have := sv_kinds (W := W) (own := own) (T := T) (len := len) (pr := pr) (fun x hx => htd x (List.mem_cons_of_mem _ hx)) hk0
        have h2 := sq_b_len hk0
        rw [← this, List.length_map] at h2
        exact h2
      have hpt := sv_ev_pt (own := own) (T := T) (len := len) (pr := pr) hW rest
      have hso := sv_ev_so (W := W) (own := own) (T := T) (len := len) (pr := pr) rest
      have ht2 : t < 2 ^ 31 := by unfold sv_tk at ht; omega
      rw [nI_pred]
      refine br_f (nI_pos (by omega)) ⟨by rw [nI_add]; exact vp_in_nI (by omega) (by omega), ?_⟩
      rw [nI_add, nI_clamp (by omega)]
      refine nm_r hQ ?_
      have em : nI i + (-1) = nI i - 1 := (Int32.sub_eq_add_neg _ _).symm
      have est : sv_ev W own T len pr (t :: rest) = sv_st W own T len pr t (sv_ev W own T len pr rest) := rfl
      rw [est] at ih'
      by_cases hw : t < 8
      · refine xj_w1 hw (br_f (by decide) ?_)
        have e2 : sv_st W own T len pr t (sv_ev W own T len pr rest) = (true, sv_wd T len t, W t, false, 0) :: sv_ev W own T len pr rest := by unfold sv_st; rw [if_pos hw]
        rw [e2] at ih'
        generalize sv_ev W own T len pr rest = E at hR hsl hpt hso ih'
        refine xs_word (by omega) hd hw hlen hL ?_
        rw [hT]
        refine xs_score (w := W t) (s := sv_wd T len t) (by omega) hd hst hlen htot (by have := hW t hw; omega) hL (by rw [pk_us]; exact hG t hw) (fun i hi => by rw [sd_cy_in hi, Nat.zero_add]) (fun hz => by
          have hl0 := h0 hz
          subst hl0
          exact sv_tot0 (T := T) (sv_wd_so T 0 t)) ?_
        intro C' hC1 hC2
        refine nm_r (nI_1 _) (nm_r em (ih' _ _ _ _ (sx_push hR ?_ ⟨?_, ?_, fun _ => ⟨?_, ?_⟩⟩)))
        · intro p hp3
          refine ⟨pk_un (by omega), hC2 p (by omega), pk_un (by omega), fun i hi => sd_cy_out (by omega)⟩
        · rw [pk_us]; rfl
        · rw [hC1, hown]; rfl
        · rw [pk_us]; exact hG t hw
        · intro i hi
          rw [sd_cy_in hi, Nat.zero_add]
      · refine xj_w0 (by omega) ht2 (br_t rfl ?_)
        by_cases hr : 1000 ≤ t
        · have ht3 : t < 11000 := by unfold sv_tk at ht; omega
          refine xj_r1 hr ht3 (br_f (by decide) ?_)
          have e2 : sv_st W own T len pr t (sv_ev W own T len pr rest) = (false, fun _ => 0, 0, decide ((t - 1000) / 100 ≤ pr ∧ pr ≤ (t - 1000) % 100), 0) :: sv_ev W own T len pr rest := by unfold sv_st; rw [if_neg hw, if_pos hr]
          rw [e2] at ih'
          generalize sv_ev W own T len pr rest = E at hR hsl hpt hso ih'
          refine xs_range (by omega) hd hr ht3 hpr hP ?_
          refine nm_r (nI_1 _) (nm_r em (ih' _ _ _ _ (sx_push hR ?_ ⟨?_, ?_, fun z => absurd (show false = true from z) (by decide)⟩)))
          · intro p hp3
            exact ⟨pk_un (by omega), pk_un (by omega), rfl, fun i hi => rfl⟩
          · rw [pk_us]; rfl
          · rw [pk_us]; rfl
        · have hj : 8 ≤ t ∧ t ≤ 12 := by unfold sv_tk at ht; omega
          refine xj_r0 (by omega) (br_t rfl ?_)
          obtain ⟨a, b, r, hE, hsp⟩ := sv_shape (W := W) (own := own) (T := T) (len := len) (pr := pr) htd hks hj
          have e2 : sv_st W own T len pr t (sv_ev W own T len pr rest) = sv_j own t a b :: r := by unfold sv_st; rw [if_neg hw, if_neg hr, hE]
          rw [e2] at ih'
          rw [hE] at hR hsl hpt hso ⊢
          rw [List.length_cons, List.length_cons] at hsl ⊢
          obtain ⟨ea, eb, hRr⟩ := hR
          rw [List.length_cons] at ea
          have hpt' : sv_pt (a :: b :: r) = 3 * a.2.2.1 + a.2.2.2.2 + (3 * b.2.2.1 + b.2.2.2.2 + sv_pt r) := rfl
          refine br_f (nI_nlt (b := 2) (by omega) (by omega)) (nm_r (pk_m1 _) ?_)
          rw [nI_pred]
          by_cases hs : t = 11 ∨ t = 12
          · refine xj_s1 hs (br_f (by decide) ?_)
            obtain ⟨ha1, hb1⟩ := hsp hs
            obtain ⟨hsa, hsb, _⟩ := hso
            have e3 : sv_j own t a b = (true, fun i => sv_ch (if t = 11 then 1 else 3) (a.2.1 i) b.2.1 12, b.2.2.1 + a.2.2.1, false, 0) := by unfold sv_j; rw [if_pos (by omega)]
            have hso2 := sv_j_so (own := own) (t := t) hsa hsb
            rw [e3] at ih' hso2
            have go : ∀ far : Nat, (far = 1 ∨ far = 3) → (if t = 11 then 1 else 3) = far → wX_judge__watchQuery_113 post (wX_judge__watchQuery_8 post (nI fr) (nI d) (i + 1)) (nI fr) (nI d) (nI (r.length + 1)) (nI i) (nI far) (nI r.length) (nI (r.length + 1)) fdc fnn fsg fpt fpq (nI st) (nI tot) fhc aN aP aL aT aS aD aV aPT aPQ aLQ aI M C V B aG aHN aHS aHR aSH aWQ aWL aNN aNC := by
              intro far hfar hf2
              rw [hf2] at ih' hso2
              refine xs_js (sa := a.2.1) (sb := b.2.1) (w1 := a.2.2.1) (w2 := b.2.2.1) (by omega) (by omega) (by omega) hfar (ea.2.2 ha1).2 (eb.2.2 hb1).2 (fun i hi => (hsa i hi).1) (ea.2.2 ha1).1 (eb.2.2 hb1).1 ?_
              show wpX_scoreSpans _ _ (nI (r.length + 1) - 1) (nI d)
              rw [nI_pred]
              refine xs_score (w := b.2.2.1 + a.2.2.1) (s := fun i => sv_ch far (a.2.1 i) b.2.1 12) (by omega) hd hst hlen htot (by omega) hL pk_us (fun i hi => by rw [sd_cy_in hi, Nat.zero_add]) (fun hz => by
                have hl0 := h0 hz
                subst hl0
                exact sv_tot0 (T := T) hso2) ?_
              intro C' hC1 hC2
              refine nm_r em (ih' _ _ _ _ (sx_push hRr ?_ ⟨?_, ?_, fun _ => ⟨pk_us, ?_⟩⟩))
              · intro p hp3
                exact ⟨pk_un (by omega), hC2 p (by omega), pk_un (by omega), fun i hi => sd_cy_out (by omega)⟩
              · rw [pk_us]; rfl
              · rw [hC1, hown]; rfl
              · intro i hi
                rw [sd_cy_in hi, Nat.zero_add]
            by_cases h11 : t = 11
            · exact br_t (by rw [h11]; rfl) (go 1 (Or.inl rfl) (if_pos h11))
            · exact br_f (fun z => h11 ((nI_eq (b := 11) ht2 (by decide)).mp z)) (go 3 (Or.inr rfl) (if_neg h11))
          · refine xj_s0 ht2 (by omega) (by omega) (br_t rfl ?_)
            have e3 : sv_j own t a b = (false, fun _ => 0, 0, sv_cm t (sv_mt a) (sv_mt b), if t = 10 then sv_ss own a else sv_ss own a + sv_ss own b) := by unfold sv_j; rw [if_neg (by omega)]
            rw [e3] at ih'
            refine xs_jm (a := r.length + 1) (b := r.length) (x := sv_mt a) (y := sv_mt b) (s1 := sv_ss own a) (s2 := sv_ss own b) (by omega) (by omega) (by omega) ea.1 eb.1 ea.2.1 eb.2.1 ?_
            refine nm_r em (ih' _ _ _ _ (sx_push hRr ?_ ⟨?_, ?_, fun z => absurd (show false = true from z) (by decide)⟩))
            · intro p hp3
              exact ⟨pk_un (by omega), pk_un (by omega), rfl, fun i hi => rfl⟩
            · rw [pk_us]; rfl
            · rw [pk_us]; rfl
  have k0 := key l.length (Nat.le_refl _) aM aC aW aB (by rw [List.drop_length]; exact trivial)
  rw [List.drop_length] at k0
  exact nm_e (Exists.intro (l.length + 1) k0)
end
end
section
abbrev sn_S : Type := (Nat → Int32) × (Nat → Int32)
def sn_ap (s : sn_S) (w : Nat) (x : Int32) : sn_S :=
  if 8 ≤ sd_n s.2 w then (upd (sd_dr s.1 (8 * w) 7) (8 * w + 7) x, upd (upd s.2 w (nI 7)) w (nI 8)) else (upd s.1 (8 * w + sd_n s.2 w) x, upd s.2 w (nI (sd_n s.2 w + 1)))
def sn_w (W : Nat → List Nat) (mt : List Nat → Bool) (x : Int32) : Nat → sn_S → sn_S
  | 0, s => s
  | w + 1, s => if (W w).length = 0 then sn_w W mt x w s else if mt (W w) = true then sn_ap (sn_w W mt x w s) w x else sn_w W mt x w s
def sn_t (W : Nat → List Nat) (mt : Nat → List Nat → Bool) (N : Nat → Int32) (st : Nat) : Nat → sn_S → sn_S
  | 0, s => s
  | i + 1, s => sn_w W (mt (st + i)) (N (st + i)) 4 (sn_t W mt N st i s)
theorem sr_N_n {C : Nat → Int32} (h : sr_N C) {w : Nat} (hw : w < 4) : C w = nI (sd_n C w) ∧ sd_n C w ≤ 8 := by
  obtain ⟨c, h1, h2⟩ := h w hw
  have : sd_n C w = c := by unfold sd_n; rw [h2]; exact nI_clamp (by omega)
  rw [this]; exact ⟨h2, h1⟩
theorem sr_N_upd {C : Nat → Int32} (h : sr_N C) {w c : Nat} (hc : c ≤ 8) : sr_N (upd C w (nI c)) := by
  intro v hv
  by_cases e : v = w
  · subst e; rw [pk_us]; exact ⟨c, hc, rfl⟩
  · rw [pk_un e]; exact h v hv
theorem sn_ap_N {s : sn_S} (h : sr_N s.2) {w : Nat} (hw : w < 4) (x : Int32) : sr_N (sn_ap s w x).2 := by
  have := sr_N_n h hw
  unfold sn_ap
  split
  · exact sr_N_upd (sr_N_upd h (by omega)) (by omega)
  · exact sr_N_upd h (by omega)
theorem sn_w_N {W : Nat → List Nat} {mt : List Nat → Bool} {x : Int32} {s : sn_S} (h : sr_N s.2) : ∀ w, w ≤ 4 → sr_N (sn_w W mt x w s).2
  | 0, _ => h
  | w + 1, hw => by
    have ih := sn_w_N (W := W) (mt := mt) (x := x) h w (by omega)
    show sr_N (if (W w).length = 0 then sn_w W mt x w s else if mt (W w) = true then sn_ap (sn_w W mt x w s) w x else sn_w W mt x w s).2
    split
    · exact ih
    · split
      · exact sn_ap_N ih (by omega) x
      · exact ih
theorem sn_t_N {W : Nat → List Nat} {mt : Nat → List Nat → Bool} {N : Nat → Int32} {st : Nat} {s : sn_S} (h : sr_N s.2) : ∀ i, sr_N (sn_t W mt N st i s).2
  | 0 => h
  | i + 1 => sn_w_N (sn_t_N h i) 4 (Nat.le_refl _)
def sn_mt (D : sd_D) (d : Nat) (l : List Nat) : Bool := sv_rm (fun _ => 0) 0 (fun i => D.2.2.2.1 (12 * d + i)) (sd_n D.2.2.1 d) (sd_n D.2.1 d) l
theorem sx_8 (p : Nat) : nI p * 8 = nI (8 * p) := by
  show nI p * nI 8 = _
  rw [pk_mul, Nat.mul_comm]
theorem sy_8 (p : Nat) : 8 * nI p = nI (8 * p) := by
  show nI 8 * nI p = _
  rw [pk_mul]
theorem sd_ok_P {D : sd_D} (h : sd_ok D) (j : Nat) : D.2.1 j = nI (sd_n D.2.1 j) ∧ sd_n D.2.1 j < 100 := by
  obtain ⟨n, h1, h2⟩ := h.2.1 j
  have : sd_n D.2.1 j = n := by unfold sd_n; rw [h2]; exact nI_clamp (by omega)
  rw [this]; exact ⟨h2, h1⟩
def sn_W (W : Nat → List Nat) (aWQ aWL : Nat → Int32) : Prop :=
  ∀ w, w < 4 → (W w).length ≤ 12 ∧ sv_tks (W w) ∧ (W w ≠ [] → ∃ v, sq_b (W w) = some [v]) ∧ aWL w = nI (W w).length ∧ sr_H aWQ (12 * w) (W w)
section
variable {fdc fnn fsg fpt fpq fsc fsl fhc : Int32} {aN aP aL aT aS aD aV aPT aPQ aLQ aI aM aC aW aB aG aHN aHS aHR aSH aWQ aWL aNN aNC : Nat → Int32}
theorem xn_drop {w c : Nat} (hw : w < 4) (hc : aNC w = nI c) (h1 : 1 ≤ c) (h8 : c ≤ 8) {post : SX → Prop} (hp : post (fdc, fnn, fsg, fpt, fpq, fsc, fsl, fhc, aN, aP, aL, aT, aS, aD, aV, aPT, aPQ, aLQ, aI, aM, aC, aW, aB, aG, aHN, aHS, aHR, aSH, aWQ, aWL, sd_dr aNN (8 * w) (c - 1), upd aNC w (nI (c - 1)))) : wpX_dropFirstNews post (fdc, fnn, fsg, fpt, fpq, fsc, fsl, fhc, aN, aP, aL, aT, aS, aD, aV, aPT, aPQ, aLQ, aI, aM, aC, aW, aB, aG, aHN, aHS, aHR, aSH, aWQ, aWL, aNN, aNC) (nI w) := by
  have ew : (nI w).toNatClampNeg = w := nI_clamp (by omega)
  have hv : vp_in (nI w) 4 := vp_in_nI hw (by omega)
  have key : ∀ m k, k + 1 + m = c → wX_dropFirstNews_7 post (nI w) (nI (8 * w)) fdc fnn fsg fpt fpq fsc fsl fhc (m + 1) (nI (k + 1)) aN aP aL aT aS aD aV aPT aPQ aLQ aI aM aC aW aB aG aHN aHS aHR aSH aWQ aWL (sd_dr aNN (8 * w) k) aNC := by
    intro m
    induction m with
    | zero =>
      intro k h
      obtain rfl : k + 1 = c := by omega
      refine ⟨hv, ?_⟩
      rw [ew, hc]
      refine br_t (nI_le (Nat.le_refl _) (by omega)) ⟨hv, hv, ?_⟩
      rw [nI_pred]
      exact nm_e hp
    | succ m ih =>
      intro k h
      have e1 : nI (8 * w) + nI (k + 1) = nI (8 * w + k + 1) := by rw [nI_add]; rfl
      refine ⟨hv, ?_⟩
      rw [ew, hc]
      refine br_f (nI_ge (by omega) (by omega)) ⟨by rw [e1]; exact vp_in_nI (by omega) (by omega), by rw [e1, nI_pred]; exact vp_in_nI (by omega) (by omega), ?_⟩
      rw [e1, nI_pred, nI_clamp (by omega), nI_clamp (by omega)]
      exact nm_r (sd_dr_s aNN (8 * w) k) (nm_r (nI_1 _) (ih (k + 1) (by omega)))
  have k0 := key (c - 1) 0 (by omega)
  rw [sd_dr_0] at k0
  exact nm_r (sx_8 w) (Exists.intro (c - 1 + 1) k0)
theorem xn_app {w : Nat} {x : Int32} (hw : w < 4) (hN : sr_N aNC) {post : SX → Prop} (hp : post (fdc, fnn, fsg, fpt, fpq, fsc, fsl, fhc, aN, aP, aL, aT, aS, aD, aV, aPT, aPQ, aLQ, aI, aM, aC, aW, aB, aG, aHN, aHS, aHR, aSH, aWQ, aWL, (sn_ap (aNN, aNC) w x).1, (sn_ap (aNN, aNC) w x).2)) : wpX_appendNews post (fdc, fnn, fsg, fpt, fpq, fsc, fsl, fhc, aN, aP, aL, aT, aS, aD, aV, aPT, aPQ, aLQ, aI, aM, aC, aW, aB, aG, aHN, aHS, aHR, aSH, aWQ, aWL, aNN, aNC) (nI w) x := by
  have ew : (nI w).toNatClampNeg = w := nI_clamp (by omega)
  have hv : vp_in (nI w) 4 := vp_in_nI hw (by omega)
  obtain ⟨hc, h8⟩ := sr_N_n hN hw
  unfold sn_ap at hp
  simp only at hp
  generalize sd_n aNC w = c at hc h8 hp
  refine ⟨hv, ?_⟩
  rw [ew, hc]
  rcases Nat.lt_or_ge c 8 with h | h
  · rw [if_neg (by omega)] at hp
    refine br_t (nI_lt (b := 8) h (by decide)) ?_
    have e1 : nI w * 8 + nI c = nI (8 * w + c) := by rw [sx_8, nI_add]
    refine ⟨hv, ?_⟩
    rw [ew, hc]
    refine ⟨by rw [e1]; exact vp_in_nI (by omega) (by omega), ?_⟩
    rw [e1, nI_clamp (by omega)]
    refine nm_e ⟨hv, hv, ?_⟩
    rw [nI_1]
    exact nm_e hp
  · obtain rfl : c = 8 := by omega
    rw [if_pos h] at hp
    refine br_f (nI_nlt (b := 8) h (by decide)) (xn_drop hw hc (by omega) (by omega) ?_)
    have e1 : nI w * 8 + nI 7 = nI (8 * w + 7) := by rw [sx_8, nI_add]
    refine ⟨hv, ?_⟩
    rw [ew, pk_us]
    refine ⟨by show vp_in (nI w * 8 + nI 7) 32; rw [e1]; exact vp_in_nI (by omega) (by omega), ?_⟩
    refine nm_r (show upd _ (nI w * 8 + nI 7).toNatClampNeg x = _ by rw [e1, nI_clamp (by omega)]) ⟨hv, hv, ?_⟩
    exact nm_r (show upd _ w (nI 7 + 1) = upd _ w (nI 8) by rw [nI_1]) hp
theorem xn_tell {dc first : Nat} {W : Nat → List Nat} {D : sd_D} (h32 : dc ≤ 32) (hf : first ≤ dc) (hD : sd_ok D) (hS : sd_P D.2.2.2.2.1 dc dc) (hW : sn_W W aWQ aWL) (hN : sr_N aNC) {post : SX → Prop}
    (hp : ∀ (c1 c2 : Int32) (M C V B G : Nat → Int32), post (nI dc, fnn, fsg, fpt, fpq, c1, c2, fhc, D.1, D.2.1, D.2.2.1, D.2.2.2.1, D.2.2.2.2.1, D.2.2.2.2.2, aV, aPT, aPQ, aLQ, aI, M, C, V, B, G, aHN, aHS, aHR, aSH, aWQ, aWL, (sn_t W (sn_mt D) D.1 first (dc - first) (aNN, aNC)).1, (sn_t W (sn_mt D) D.1 first (dc - first) (aNN, aNC)).2)) :
    wpX_tellWatches post (nI dc, fnn, fsg, fpt, fpq, fsc, fsl, fhc, D.1, D.2.1, D.2.2.1, D.2.2.2.1, D.2.2.2.2.1, D.2.2.2.2.2, aV, aPT, aPQ, aLQ, aI, aM, aC, aW, aB, aG, aHN, aHS, aHR, aSH, aWQ, aWL, aNN, aNC) (nI first) := by
  have hL := sd_ok_L hD
  refine xr_weigh (fsc := fsc) (fsl := fsl) hS hL ?_
  intro G hG
  have htot : sg_sm (sd_n D.2.2.1) dc ≤ 384 := by
    have := sg_sm_le (f := sd_n D.2.2.1) 12 dc (fun i _ => (hL i).2)
    omega
  have inner : ∀ (J : Int32 → Int32 → Int32 → Int32 → Int32 → Int32 → Int32 → Int32 → Int32 → (Nat → Int32) → (Nat → Int32) → (Nat → Int32) → (Nat → Int32) → (Nat → Int32) → (Nat → Int32) → (Nat → Int32) → (Nat → Int32) → (Nat → Int32) → (Nat → Int32) → (Nat → Int32) → (Nat → Int32) → (Nat → Int32) → (Nat → Int32) → (Nat → Int32) → (Nat → Int32) → (Nat → Int32) → (Nat → Int32) → (Nat → Int32) → (Nat → Int32) → (Nat → Int32) → (Nat → Int32) → (Nat → Int32) → (Nat → Int32) → Prop) (d : Nat) (s0 : sn_S), d < dc → sr_N s0.2 →
      (∀ M C V B : Nat → Int32, J (nI (d + 1)) (nI dc) fnn fsg fpt fpq (nI dc) (nI (sg_sm (sd_n D.2.2.1) dc)) fhc D.1 D.2.1 D.2.2.1 D.2.2.2.1 D.2.2.2.2.1 D.2.2.2.2.2 aV aPT aPQ aLQ aI M C V B G aHN aHS aHR aSH aWQ aWL ((sn_w W (sn_mt D d) (D.1 d) 4 s0).1) ((sn_w W (sn_mt D d) (D.1 d) 4 s0).2)) →
      ∀ m w (M C V B : Nat → Int32), w + m = 4 → wX_tellWatches_16 post J (nI d) (m + 1) (nI w) (nI dc) fnn fsg fpt fpq (nI dc) (nI (sg_sm (sd_n D.2.2.1) dc)) fhc D.1 D.2.1 D.2.2.1 D.2.2.2.1 D.2.2.2.2.1 D.2.2.2.2.2 aV aPT aPQ aLQ aI M C V B G aHN aHS aHR aSH aWQ aWL ((sn_w W (sn_mt D d) (D.1 d) w s0).1) ((sn_w W (sn_mt D d) (D.1 d) w s0).2) := by
    intro J d s0 hd hs0 hJ m
    induction m with
    | zero =>
      intro w M C V B h
      obtain rfl : w = 4 := by omega
      exact br_t (nI_le (b := 4) (Nat.le_refl _) (by decide)) (nm_r (nI_1 _) (hJ M C V B))
    | succ m ih =>
      intro w M C V B h
      have ew : (nI w).toNatClampNeg = w := nI_clamp (by omega)
      have ed : (nI d).toNatClampNeg = d := nI_clamp (by omega)
      have hv : vp_in (nI w) 4 := vp_in_nI (by omega) (by omega)
      obtain ⟨w1, w2, w3, w4, w5⟩ := hW w (by omega)
      have I := ih (w + 1)
      have hsn := sn_w_N (W := W) (mt := sn_mt D d) (x := D.1 d) hs0 w (by omega)
      have es : sn_w W (sn_mt D d) (D.1 d) (w + 1) s0 = if (W w).length = 0 then sn_w W (sn_mt D d) (D.1 d) w s0 else if sn_mt D d (W w) = true then sn_ap (sn_w W (sn_mt D d) (D.1 d) w s0) w (D.1 d) else sn_w W (sn_mt D d) (D.1 d) w s0 := rfl
      rw [es] at I
      generalize sn_w W (sn_mt D d) (D.1 d) w s0 = s at I hsn
      refine br_f (nI_ge (b := 4) (by omega) (by decide)) ⟨hv, ?_⟩
      rw [ew, w4]
      by_cases hz : (W w).length = 0
      · rw [if_pos hz] at I
        exact br_t (by rw [hz]; rfl) (nm_r (nI_1 _) (I M C V B (by omega)))
      · rw [if_neg hz] at I
        refine br_f (nI_ne0 (by omega) (by omega)) ⟨hv, ?_⟩
        rw [sx_12]
        obtain ⟨kk, hkk⟩ := w3 (fun z => hz (by rw [z]; rfl))
        refine xj_watchQuery (W := sd_W D.2.2.2.1 D.2.2.1 dc) (len := sd_n D.2.2.1 d) (pr := sd_n D.2.1 d) (by omega) h32 (hL d).2 htot (sd_ok_P hD d).2 (hL d).1 (sd_ok_P hD d).1 hG (fun w _ => sd_W_le _ _ h32 w)
          (fun hz => by have := sg_sm_ge (f := sd_n D.2.2.1) dc d hd; omega) (by omega) (by omega) w5 w2 hkk ?_
        intro M C V B
        have em : sv_rm (sd_W D.2.2.2.1 D.2.2.1 dc) (sv_own (sd_n D.2.2.1 d) dc (sg_sm (sd_n D.2.2.1) dc)) (fun i => D.2.2.2.1 (12 * d + i)) (sd_n D.2.2.1 d) (sd_n D.2.1 d) (W w) = sn_mt D d (W w) := sv_rm_ind _
        have er := sv_rs_le (W := sd_W D.2.2.2.1 D.2.2.1 dc) (own := sv_own (sd_n D.2.2.1 d) dc (sg_sm (sd_n D.2.2.1) dc)) (T := fun i => D.2.2.2.1 (12 * d + i)) (len := sd_n D.2.2.1 d) (pr := sd_n D.2.1 d) (fun w _ => sd_W_le _ _ h32 w) (W w)
        rw [em]
        generalize sv_rs (sd_W D.2.2.2.1 D.2.2.1 dc) (sv_own (sd_n D.2.2.1 d) dc (sg_sm (sd_n D.2.2.1) dc)) (fun i => D.2.2.2.1 (12 * d + i)) (sd_n D.2.2.1 d) (sd_n D.2.1 d) (W w) = rs at er
        cases hm : sn_mt D d (W w) with
        | true =>
          rw [hm, if_pos rfl] at I
          refine br_f (sx_nm (c := rs) (by omega)) ⟨vp_in_nI (by omega) (by omega), ?_⟩
          rw [ed]
          exact xn_app (by omega) hsn (nm_r (nI_1 _) (I M C V B (by omega)))
        | false =>
          rw [hm, if_neg (by decide)] at I
          exact br_t rfl (nm_r (nI_1 _) (I M C V B (by omega)))
  have key : ∀ m i (M C V B : Nat → Int32), i + m = dc - first → wX_tellWatches_6 post (m + 1) (nI (first + i)) (nI dc) fnn fsg fpt fpq (nI dc) (nI (sg_sm (sd_n D.2.2.1) dc)) fhc D.1 D.2.1 D.2.2.1 D.2.2.2.1 D.2.2.2.2.1 D.2.2.2.2.2 aV aPT aPQ aLQ aI M C V B G aHN aHS aHR aSH aWQ aWL ((sn_t W (sn_mt D) D.1 first i (aNN, aNC)).1) ((sn_t W (sn_mt D) D.1 first i (aNN, aNC)).2) := by
    intro m
    induction m with
    | zero =>
      intro i M C V B h
      obtain rfl : i = dc - first := by omega
      exact br_t (nI_le (by omega) (by omega)) (hp _ _ M C V B G)
    | succ m ih =>
      intro i M C V B h
      refine br_f (nI_ge (by omega) (by omega)) (Exists.intro 5 ?_)
      exact inner _ (first + i) (sn_t W (sn_mt D) D.1 first i (aNN, aNC)) (by omega) (sn_t_N hN i) (fun M C V B => ih (i + 1) M C V B (by omega)) 4 0 M C V B rfl
  exact Exists.intro (dc - first + 1) (key (dc - first) 0 aM aC aW aB (Nat.zero_add _))
end
end
section
/-! merging: documents, levels, how many documents, how many segments -/
abbrev sm_S : Type := sd_D × (Nat → Int32) × Nat × Nat
def sm_st (s : sm_S) : sm_S :=
  ((sd_jn (nI (s.2.2.2 - 3)) s.1 s.2.2.1).1, (if 0 < (sd_jn (nI (s.2.2.2 - 3)) s.1 s.2.2.1).2.2 then upd s.2.1 (s.2.2.2 - 3) (s.2.1 (s.2.2.2 - 3) + 1) else s.2.1), (sd_jn (nI (s.2.2.2 - 3)) s.1 s.2.2.1).2.1, if 0 < (sd_jn (nI (s.2.2.2 - 3)) s.1 s.2.2.1).2.2 then s.2.2.2 - 3 + 1 else s.2.2.2 - 3)
noncomputable def sm_go : Nat → sm_S → sm_S
  | 0, s => s
  | k + 1, s => @ite _ (sd_al s.2.1 s.2.2.2) (Classical.propDecidable _) (sm_go k (sm_st s)) s
theorem sm_go_y {k : Nat} {s : sm_S} (h : sd_al s.2.1 s.2.2.2) : sm_go (k + 1) s = sm_go k (sm_st s) := by
  show @ite _ (sd_al s.2.1 s.2.2.2) (Classical.propDecidable _) (sm_go k (sm_st s)) s = _
  rw [if_pos h]
theorem sm_go_n {k : Nat} {s : sm_S} (h : ¬ sd_al s.2.1 s.2.2.2) : sm_go k s = s := by
  cases k with
  | zero => rfl
  | succ k =>
    show @ite _ (sd_al s.2.1 s.2.2.2) (Classical.propDecidable _) (sm_go k (sm_st s)) s = _
    rw [if_neg h]
def sm_I (s : sm_S) : Prop := sd_ok s.1 ∧ sd_I s.1.2.2.2.2.1 s.2.2.1 s.2.2.1 s.2.2.2
theorem sm_st_I {s : sm_S} (h : sm_I s) (ha : sd_al s.2.1 s.2.2.2) : sm_I (sm_st s) ∧ (sm_st s).2.2.2 + 2 ≤ s.2.2.2 := by
  obtain ⟨h1, h2⟩ := h
  have h3 := sd_I_join (D := s.1) (f := s.2.2.2 - 3) h2 (by omega)
  refine ⟨⟨sd_ok_jn h1 _ _, h3.1⟩, ?_⟩
  have := ha.1
  show (if 0 < (sd_jn (nI (s.2.2.2 - 3)) s.1 s.2.2.1).2.2 then s.2.2.2 - 3 + 1 else s.2.2.2 - 3) + 2 ≤ s.2.2.2
  split <;> omega
theorem sm_go_I : ∀ k (s : sm_S), sm_I s → sm_I (sm_go k s)
  | 0, _, h => h
  | k + 1, s, h => by
    by_cases ha : sd_al s.2.1 s.2.2.2
    · rw [sm_go_y ha]; exact sm_go_I k _ (sm_st_I h ha).1
    · rw [sm_go_n ha]; exact h
/-- what the flush leaves: all stored, then merged -/
def sm_fl (D : sd_D) (st dc sg : Nat) : sd_D := (D.1, D.2.1, D.2.2.1, D.2.2.2.1, sd_cy D.2.2.2.2.1 st (fun _ => nI sg) 0 (dc - st), D.2.2.2.2.2)
theorem sm_fl_ok {D : sd_D} (h : sd_ok D) (st dc sg : Nat) : sd_ok (sm_fl D st dc sg) := h
theorem sm_fl_I {D : sd_D} {st dc sg : Nat} (h : sd_I D.2.2.2.2.1 st dc sg) (hlt : st < dc) : sd_I (sm_fl D st dc sg).2.2.2.2.1 dc dc (sg + 1) := by
  have hsg := sd_I_sg h
  obtain ⟨h1, h2, h3, h4, h5⟩ := h
  have lo : ∀ j, j < st → (sm_fl D st dc sg).2.2.2.2.1 j = D.2.2.2.2.1 j := fun j hj => sd_cy_out (a := D.2.2.2.2.1) (b := st) (s := fun _ => nI sg) (c := 0) (m := dc - st) (Or.inl hj)
  have hi : ∀ j, st ≤ j → j < dc → (sm_fl D st dc sg).2.2.2.2.1 j = nI sg := by
    intro j a b
    show sd_cy D.2.2.2.2.1 st (fun _ => nI sg) 0 (dc - st) j = nI sg
    unfold sd_cy
    rw [if_pos (by omega)]
  have all : ∀ d, d < dc → ∃ c, c < sg + 1 ∧ (sm_fl D st dc sg).2.2.2.2.1 d = nI c := by
    intro d hd
    rcases Nat.lt_or_ge d st with a | a
    · rw [lo d a]
      obtain ⟨c, hc, e⟩ := h3 d a
      exact ⟨c, by omega, e⟩
    · exact ⟨sg, by omega, hi d a hd⟩
  refine ⟨Nat.le_refl _, h2, all, fun d a b => absurd b (by omega), ?_⟩
  intro c hc
  rcases Nat.lt_or_ge sg c with a | a
  · obtain rfl : c = sg + 1 := by omega
    rw [sg_cn_all dc (fun i hi => by
      obtain ⟨c, hc, e⟩ := all i hi
      show decide ((sm_fl D st dc sg).2.2.2.2.1 i < nI (sg + 1)) = true
      rw [e]
      exact decide_eq_true ((nI_ltI (by omega) (by omega)).mpr hc))]
    omega
  · have h6 := h5 c a
    obtain ⟨b, hb⟩ := Nat.exists_eq_add_of_le h1
    rw [hb, sg_cn_split]
    have h7 : sg_cn (fun j => decide ((sm_fl D st (st + b) sg).2.2.2.2.1 j < nI c)) st = sg_cn (fun j => decide (D.2.2.2.2.1 j < nI c)) st := by
      apply sg_cn_congr
      intro i hi'
      show decide ((sm_fl D st (st + b) sg).2.2.2.2.1 i < nI c) = _
      rw [show (sm_fl D st (st + b) sg).2.2.2.2.1 i = D.2.2.2.2.1 i from sd_cy_out (a := D.2.2.2.2.1) (b := st) (s := fun _ => nI sg) (c := 0) (m := st + b - st) (Or.inl hi')]
    rw [h7]
    omega
section
variable {fdc fnn fsg fpt fpq fsc fsl fhc : Int32} {aN aP aL aT aS aD aV aPT aPQ aLQ aI aM aC aW aB aG aHN aHS aHR aSH aWQ aWL aNN aNC : Nat → Int32}
theorem xm_merge {post : SX → Prop} : ∀ k r (s : sm_S), sm_I s → s.2.2.2 ≤ 2 * k + 2 → 2 * r + s.2.2.2 ≤ 32 → post (nI (sm_go k s).2.2.1, fnn, nI (sm_go k s).2.2.2, fpt, fpq, fsc, fsl, fhc, ((sm_go k s).1).1, ((sm_go k s).1).2.1, ((sm_go k s).1).2.2.1, ((sm_go k s).1).2.2.2.1, ((sm_go k s).1).2.2.2.2.1, ((sm_go k s).1).2.2.2.2.2, (sm_go k s).2.1, aPT, aPQ, aLQ, aI, aM, aC, aW, aB, aG, aHN, aHS, aHR, aSH, aWQ, aWL, aNN, aNC) →
    wX_mergeSegments_2 post (k + 1) (nI r) (nI s.2.2.1) fnn (nI s.2.2.2) fpt fpq fsc fsl fhc ((s.1).1) ((s.1).2.1) ((s.1).2.2.1) ((s.1).2.2.2.1) ((s.1).2.2.2.2.1) ((s.1).2.2.2.2.2) s.2.1 aPT aPQ aLQ aI aM aC aW aB aG aHN aHS aHR aSH aWQ aWL aNN aNC := by
  intro k
  induction k with
  | zero =>
    intro r s hI hk hr hp
    have hn : ¬ sd_al s.2.1 s.2.2.2 := fun z => by have := z.1; omega
    refine br_f (nI_ge (b := 32) (by omega) (by decide)) ?_
    exact xd_alike (by omega) (fun z => absurd z hn) (fun _ => br_t rfl hp)
  | succ k ih =>
    intro r s hI hk hr hp
    refine br_f (nI_ge (b := 32) (by omega) (by decide)) ?_
    refine xd_alike (by omega) (fun ha => ?_) (fun hn => ?_)
    · rw [sm_go_y ha] at hp
      have h3 := ha.1
      obtain ⟨hI', hle⟩ := sm_st_I hI ha
      have e3 : nI s.2.2.2 - 3 = nI (s.2.2.2 - 3) := by
        show nI s.2.2.2 - nI 3 = _
        rw [pk_sub h3]
      have I := ih (r + 1) (sm_st s) hI' (by omega) (by omega) hp
      unfold sm_st at I
      refine br_f (by decide) (nm_r e3 ⟨vp_in_nI (by omega) (by omega), ?_⟩)
      rw [nI_clamp (by omega)]
      refine xd_join hI.2.2.1 (by omega) hI.1 (fun h0 => ?_) (fun h0 => ?_)
      · rw [if_neg (by omega), if_neg (by omega)] at I
        exact nm_r (nI_1 _) I
      · rw [if_pos h0, if_pos h0] at I
        exact nm_r (nI_1 _) I
    · rw [sm_go_n hn] at hp
      exact br_t rfl hp
theorem xm_flush {dc st sg : Nat} {W : Nat → List Nat} {D : sd_D} (hD : sd_ok D) (hI : sd_I D.2.2.2.2.1 st dc sg) (hW : sn_W W aWQ aWL) (hN : sr_N aNC) {post : SX → Prop}
    (h0 : st = dc → post (nI dc, fnn, nI sg, fpt, fpq, fsc, fsl, fhc, D.1, D.2.1, D.2.2.1, D.2.2.2.1, D.2.2.2.2.1, D.2.2.2.2.2, aV, aPT, aPQ, aLQ, aI, aM, aC, aW, aB, aG, aHN, aHS, aHR, aSH, aWQ, aWL, aNN, aNC))
    (hp : st < dc → ∀ (s : sm_S) (n : sn_S), s = sm_go 16 (sm_fl D st dc sg, upd aV sg 0, dc, sg + 1) → n = sn_t W (sn_mt D) D.1 st (dc - st) (aNN, aNC) → ∀ (c1 c2 : Int32) (M C V B G : Nat → Int32),
      post (nI s.2.2.1, fnn, nI s.2.2.2, fpt, fpq, c1, c2, fhc, (s.1).1, (s.1).2.1, (s.1).2.2.1, (s.1).2.2.2.1, (s.1).2.2.2.2.1, (s.1).2.2.2.2.2, s.2.1, aPT, aPQ, aLQ, aI, M, C, V, B, G, aHN, aHS, aHR, aSH, aWQ, aWL, n.1, n.2)) :
    wpX_flushBuffer post (nI dc, fnn, nI sg, fpt, fpq, fsc, fsl, fhc, D.1, D.2.1, D.2.2.1, D.2.2.2.1, D.2.2.2.2.1, D.2.2.2.2.2, aV, aPT, aPQ, aLQ, aI, aM, aC, aW, aB, aG, aHN, aHS, aHR, aSH, aWQ, aWL, aNN, aNC) := by
  have hsg := sd_I_sg hI
  have hP := sd_I_P hI
  obtain ⟨h1, h32, h3, h4⟩ := hP
  have ecn : sg_cn (fun j => decide (st ≤ j)) dc = dc - st := by
    obtain ⟨b, rfl⟩ := Nat.exists_eq_add_of_le h1
    rw [sg_cn_split, sg_cn_0 st (fun i hi => decide_eq_false (by omega)), sg_cn_all b (fun i _ => decide_eq_true (by omega))]
    omega
  refine xr_countIn h32 (fun j => decide (st ≤ j)) (fun j hj => ?_) ?_
  · rw [decide_eq_true_iff]
    constructor
    · intro a; exact h4 j a hj
    · intro a
      rcases Nat.lt_or_ge j st with b | b
      · obtain ⟨c, hc, e⟩ := h3 j b
        rw [e] at a
        exact absurd a (sx_nm hc)
      · exact b
  · rw [ecn]
    rcases Nat.lt_or_ge st dc with hlt | hge
    · refine br_f (nI_ne0 (by omega) (by omega)) (nm_r (nI_1 _) ⟨vp_in_nI (by omega) (by omega), ?_⟩)
      rw [nI_clamp (by omega)]
      have e1 : nI dc - nI (dc - st) = nI st := by
        rw [pk_sub (by omega)]
        exact congrArg nI (by omega)
      refine nm_e (nm_r e1 ?_)
      have key : ∀ m i, i + m = dc - st → wX_flushBuffer_43 post (nI sg) (nI st) (nI dc) fnn (nI (sg + 1)) fpt fpq fsc fsl fhc (m + 1) (nI (st + i)) D.1 D.2.1 D.2.2.1 D.2.2.2.1 (sd_cy D.2.2.2.2.1 st (fun _ => nI sg) 0 i) D.2.2.2.2.2 (upd aV sg 0) aPT aPQ aLQ aI aM aC aW aB aG aHN aHS aHR aSH aWQ aWL aNN aNC := by
        intro m
        induction m with
        | zero =>
          intro i h
          obtain rfl : i = dc - st := by omega
          have hI' := sm_fl_I hI hlt
          refine br_t (nI_le (by omega) (by omega)) (xn_tell (D := sm_fl D st dc sg) h32 h1 hD (sd_I_P hI') hW hN ?_)
          intro c1 c2 M C V B G
          have hp' := hp hlt _ _ rfl rfl c1 c2 M C V B G
          exact Exists.intro 17 (xm_merge 16 0 (sm_fl D st dc sg, upd aV sg 0, dc, sg + 1) ⟨hD, hI'⟩ (by show sg + 1 ≤ 34; omega) (by show 2 * 0 + (sg + 1) ≤ 32; omega) hp')
        | succ m ih =>
          intro i h
          refine br_f (nI_ge (by omega) (by omega)) ⟨vp_in_nI (by omega) (by omega), ?_⟩
          rw [nI_clamp (by omega)]
          exact nm_r (sd_cy_s D.2.2.2.2.1 st (fun _ => nI sg) 0 i) (nm_r (nI_1 _) (ih (i + 1) (by omega)))
      have k0 := key (dc - st) 0 (Nat.zero_add _)
      rw [sd_cy_0] at k0
      exact Exists.intro (dc - st + 1) k0
    · have e0 : dc - st = 0 := by omega
      rw [e0]
      exact br_t rfl (h0 (by omega))
end
end
section
def sf_own (D : sd_D) (st d : Nat) : Nat := sv_own (sd_n D.2.2.1 d) st (sg_sm (sd_n D.2.2.1) st)
def sf_M (D : sd_D) (st : Nat) (l : List Nat) (d : Nat) : Bool := sv_rm (sd_W D.2.2.2.1 D.2.2.1 st) (sf_own D st d) (fun i => D.2.2.2.1 (12 * d + i)) (sd_n D.2.2.1 d) (sd_n D.2.1 d) l
def sf_S (D : sd_D) (st : Nat) (l : List Nat) (d : Nat) : Nat := sv_rs (sd_W D.2.2.2.1 D.2.2.1 st) (sf_own D st d) (fun i => D.2.2.2.1 (12 * d + i)) (sd_n D.2.2.1 d) (sd_n D.2.1 d) l
def sf_H (D : sd_D) (st : Nat) (ex : Int32) (l : List Nat) (d : Nat) : Bool := (decide (d < st) && decide (D.2.2.2.2.2 d = 0)) && (decide (¬ nI d = ex) && sf_M D st l d)
def sf_R (D : sd_D) (st : Nat) (bp : Int32) (l : List Nat) (d : Nat) : Int32 := if bp = 0 then nI (sf_S D st l d) else -(D.2.1 d)
def sf_C (D : sd_D) (st : Nat) (ex : Int32) (l : List Nat) (k e : Nat) : Bool := sf_H D st ex l e && decide (sd_n D.2.1 e / 10 = k)
theorem sf_H_t {D : sd_D} {st d : Nat} {ex : Int32} {l : List Nat} (h1 : d < st) (h2 : D.2.2.2.2.2 d = 0) (h3 : ¬ nI d = ex) : sf_H D st ex l d = sf_M D st l d := by
  unfold sf_H
  rw [decide_eq_true h1, decide_eq_true h2, decide_eq_true h3, Bool.true_and, Bool.true_and, Bool.true_and]
theorem sf_H_f {D : sd_D} {st d : Nat} {ex : Int32} {l : List Nat} (h : ¬ (d < st ∧ D.2.2.2.2.2 d = 0 ∧ ¬ nI d = ex)) : sf_H D st ex l d = false := by
  cases hh : sf_H D st ex l d with
  | false => rfl
  | true =>
    unfold sf_H at hh
    rw [Bool.and_eq_true_iff, Bool.and_eq_true_iff, Bool.and_eq_true_iff, decide_eq_true_iff, decide_eq_true_iff, decide_eq_true_iff] at hh
    exact absurd ⟨hh.1.1, hh.1.2, hh.2.1⟩ h
theorem sf_S_le (D : sd_D) {st : Nat} (h : st ≤ 32) (l : List Nat) (d : Nat) : sf_S D st l d ≤ 27 * l.length := sv_rs_le (fun w _ => sd_W_le _ _ h w) l
def rk_sf (A : Nat → Int32) (j hc : Nat) : Nat → Int32 := fun p => if j < p ∧ p < hc then A (p - 1) else A p
theorem rk_sf_0 (A : Nat → Int32) {j hc : Nat} (h : hc ≤ j + 1) : rk_sf A j hc = A := by
  funext p
  unfold rk_sf
  rw [if_neg (by omega)]
theorem rk_sf_s (A : Nat → Int32) {j hc : Nat} (h : j + 1 < hc) : upd (rk_sf A (j + 1) hc) (j + 1) (rk_sf A (j + 1) hc j) = rk_sf A j hc := by
  funext p
  unfold upd
  by_cases e : p = j + 1
  · subst e
    rw [if_pos rfl]
    unfold rk_sf
    rw [if_neg (by omega), if_pos (by omega)]
    rfl
  · rw [if_neg e]
    unfold rk_sf
    by_cases h2 : j + 1 < p ∧ p < hc
    · rw [if_pos h2, if_pos (by omega)]
    · rw [if_neg h2, if_neg (by omega)]
theorem rk_sf_e (A : Nat → Int32) (pl hc : Nat) (x : Int32) : upd (rk_sf A pl hc) pl x = rk_sh A pl hc x := rfl
section
variable {fdc fnn fsg fpt fpq fsc fsl fhc : Int32} {aN aP aL aT aS aD aV aPT aPQ aLQ aI aM aC aW aB aG aHN aHS aHR aSH aWQ aWL aNN aNC : Nat → Int32}
theorem xf_forget {post : SX → Prop} (hp : post (fdc, fnn, fsg, fpt, fpq, fsc, fsl, 0, aN, aP, aL, aT, aS, aD, aV, aPT, aPQ, aLQ, aI, aM, aC, aW, aB, aG, aHN, aHS, aHR, sd_cy aSH 0 (fun _ => 0) 0 10, aWQ, aWL, aNN, aNC)) : wpX_forgetHits post (fdc, fnn, fsg, fpt, fpq, fsc, fsl, fhc, aN, aP, aL, aT, aS, aD, aV, aPT, aPQ, aLQ, aI, aM, aC, aW, aB, aG, aHN, aHS, aHR, aSH, aWQ, aWL, aNN, aNC) := by
  have key : ∀ m i, i + m = 10 → wX_forgetHits_7 post fdc fnn fsg fpt fpq fsc fsl 0 (m + 1) (nI i) aN aP aL aT aS aD aV aPT aPQ aLQ aI aM aC aW aB aG aHN aHS aHR (sd_cy aSH 0 (fun _ => 0) 0 i) aWQ aWL aNN aNC := by
    intro m
    induction m with
    | zero =>
      intro i h
      obtain rfl : i = 10 := by omega
      exact br_t (nI_le (b := 10) (Nat.le_refl _) (by decide)) hp
    | succ m ih =>
      intro i h
      refine br_f (nI_ge (b := 10) (by omega) (by decide)) ⟨vp_in_nI (by omega) (by omega), ?_⟩
      rw [nI_clamp (by omega)]
      have e3 := sd_cy_s aSH 0 (fun _ => 0) 0 i
      rw [Nat.zero_add] at e3
      exact nm_r e3 (nm_r (nI_1 _) (ih (i + 1) (by omega)))
  have k0 := key 10 0 rfl
  rw [sd_cy_0] at k0
  exact Exists.intro 11 k0
theorem xf_keep {hc lim : Nat} {num sco rank : Int32} (h10 : lim ≤ 10) (hcl : hc ≤ lim) {post : SX → Prop}
    (hskip : ∀ pl, rk_P aHR hc rank pl → lim ≤ pl → post (fdc, fnn, fsg, fpt, fpq, fsc, fsl, nI hc, aN, aP, aL, aT, aS, aD, aV, aPT, aPQ, aLQ, aI, aM, aC, aW, aB, aG, aHN, aHS, aHR, aSH, aWQ, aWL, aNN, aNC))
    (hstep : ∀ pl hc', rk_P aHR hc rank pl → pl < lim → hc' = (if hc < lim then hc + 1 else hc) → post (fdc, fnn, fsg, fpt, fpq, fsc, fsl, nI hc', aN, aP, aL, aT, aS, aD, aV, aPT, aPQ, aLQ, aI, aM, aC, aW, aB, aG, rk_sh aHN pl hc' num, rk_sh aHS pl hc' sco, rk_sh aHR pl hc' rank, aSH, aWQ, aWL, aNN, aNC)) :
    wpX_keepHit post (fdc, fnn, fsg, fpt, fpq, fsc, fsl, nI hc, aN, aP, aL, aT, aS, aD, aV, aPT, aPQ, aLQ, aI, aM, aC, aW, aB, aG, aHN, aHS, aHR, aSH, aWQ, aWL, aNN, aNC) num sco rank (nI lim) := by
  have l73 : ∀ (pl hc' : Nat), pl < hc' → hc' ≤ 10 → post (fdc, fnn, fsg, fpt, fpq, fsc, fsl, nI hc', aN, aP, aL, aT, aS, aD, aV, aPT, aPQ, aLQ, aI, aM, aC, aW, aB, aG, rk_sh aHN pl hc' num, rk_sh aHS pl hc' sco, rk_sh aHR pl hc' rank, aSH, aWQ, aWL, aNN, aNC) →
      ∀ m j, j = pl + m → j < hc' → wX_keepHit_73 post num sco rank (nI pl) fdc fnn fsg fpt fpq fsc fsl (nI hc') (m + 1) (nI j) aN aP aL aT aS aD aV aPT aPQ aLQ aI aM aC aW aB aG (rk_sf aHN j hc') (rk_sf aHS j hc') (rk_sf aHR j hc') aSH aWQ aWL aNN aNC := by
    intro pl hc' h1 h2 hp m
    have hv : vp_in (nI pl) 10 := vp_in_nI (by omega) (by omega)
    induction m with
    | zero =>
      intro j hj hj2
      obtain rfl : j = pl := by omega
      refine br_t (nI_le (Nat.le_refl _) (by omega)) ⟨hv, ?_⟩
      rw [nI_clamp (by omega)]
      exact nm_r (rk_sf_e _ _ _ _) ⟨hv, nm_r (rk_sf_e _ _ _ _) ⟨hv, nm_r (rk_sf_e _ _ _ _) hp⟩⟩
    | succ m ih =>
      intro j hj hj2
      obtain ⟨i, rfl⟩ : ∃ i, j = i + 1 := ⟨pl + m, by omega⟩
      have hv1 : vp_in (nI i) 10 := vp_in_nI (by omega) (by omega)
      have hv2 : vp_in (nI (i + 1)) 10 := vp_in_nI (by omega) (by omega)
      refine br_f (nI_ge (by omega) (by omega)) ?_
      rw [nI_pred, nI_clamp (n := i) (by omega), nI_clamp (n := i + 1) (by omega)]
      exact ⟨hv1, hv2, nm_r (rk_sf_s _ hj2) ⟨hv1, hv2, nm_r (rk_sf_s _ hj2) ⟨hv1, hv2, nm_r (rk_sf_s _ hj2) (nm_r (pk_m1 _) (ih i (by omega) (by omega)))⟩⟩⟩
  have l6 : ∀ m k pl, k + m = hc → rk_P aHR k rank pl → wX_keepHit_6 post num sco rank (nI lim) fdc fnn fsg fpt fpq fsc fsl (nI hc) aN aP aL aT aS aD aV aPT aPQ aLQ aI aM aC aW aB aG aHN aHS aHR aSH aWQ aWL aNN aNC (m + 1) (nI pl) (nI k) := by
    intro m
    induction m with
    | zero =>
      intro k pl hk hP
      obtain rfl : k = hc := by omega
      have hple := hP.1
      refine br_t (nI_le (Nat.le_refl _) (by omega)) ?_
      rcases Nat.lt_or_ge pl lim with hl | hl
      · refine br_t (nI_lt hl (by omega)) ?_
        rcases Nat.lt_or_ge k lim with h | h
        · have L := l73 pl (k + 1) (by omega) (by omega) (hstep pl (k + 1) hP hl (by rw [if_pos h])) (k - pl) k (by omega) (by omega)
          rw [rk_sf_0 _ (Nat.le_refl _), rk_sf_0 _ (Nat.le_refl _), rk_sf_0 _ (Nat.le_refl _)] at L
          exact br_f (nI_ge h (by omega)) (nm_r (nI_1 _) (nm_r (nI_pred _) (Exists.intro _ L)))
        · obtain ⟨c, rfl⟩ : ∃ c, k = c + 1 := ⟨k - 1, by omega⟩
          have L := l73 pl (c + 1) (by omega) (by omega) (hstep pl (c + 1) hP hl (by rw [if_neg (by omega)])) (c - pl) c (by omega) (by omega)
          rw [rk_sf_0 _ (Nat.le_refl _), rk_sf_0 _ (Nat.le_refl _), rk_sf_0 _ (Nat.le_refl _)] at L
          exact br_t (nI_le h (by omega)) (nm_r (nI_pred _) (Exists.intro _ L))
      · exact br_f (nI_nlt hl (by omega)) (hskip pl hP hl)
    | succ m ih =>
      intro k pl hk hP
      obtain ⟨p1, p2, p3⟩ := hP
      refine br_f (nI_ge (by omega) (by omega)) ⟨vp_in_nI (by omega) (by omega), ?_⟩
      rw [nI_clamp (by omega)]
      refine br_c (fun hc => ?_) (fun hc => ?_)
      · refine nm_r (nI_1 _) (ih (k + 1) pl (by omega) ⟨by omega, p2, fun p a b => ?_⟩)
        rcases Nat.lt_or_ge p k with h | h
        · exact p3 p a h
        · obtain rfl : p = k := by omega
          exact Int32.not_le.mpr hc
      · refine nm_r (nI_1 _) (nm_r (nI_1 _) (ih (k + 1) (k + 1) (by omega) ⟨Nat.le_refl _, Or.inr (Int32.not_lt.mp hc), fun p a b => absurd b (by omega)⟩))
  exact Exists.intro (hc + 1) (l6 hc 0 0 (Nat.zero_add _) ⟨Nat.le_refl _, Or.inl rfl, fun p a b => absurd b (by omega)⟩)
end
section
variable {fdc fnn fsg fpt fpq fsc fsl fhc : Int32} {aN aP aL aT aS aD aV aPT aPQ aLQ aI aM aC aW aB aG aHN aHS aHR aSH aWQ aWL aNN aNC : Nat → Int32}
theorem xf_pendingQuery {D : sd_D} {dc st lim : Nat} {l : List Nat} {bp ex : Int32} (hD : sd_ok D) (hP : sd_P D.2.2.2.2.1 st dc) (hl : l.length ≤ 12) (hH : sr_H aPQ 0 l) (htk : sv_tks l) {kk : Bool} (hb : sq_b l = some [kk]) (hlim : lim ≤ 10) {post : Int32 → SX → Prop}
    (hp : ∀ (c1 c2 : Int32) (hc : Nat) (M C V B G hN hS hR SH : Nat → Int32), rk_I (sf_H D st ex l) (sf_R D st bp l) D.1 (fun e => nI (sf_S D st l e)) lim dc hc hN hS hR → (∀ k, k < 10 → SH k = nI (sg_cn (sf_C D st ex l k) dc)) →
      post (nI (sg_cn (sf_H D st ex l) dc)) (nI dc, fnn, fsg, fpt, fpq, c1, c2, nI hc, D.1, D.2.1, D.2.2.1, D.2.2.2.1, D.2.2.2.2.1, D.2.2.2.2.2, aV, aPT, aPQ, aLQ, aI, M, C, V, B, G, hN, hS, hR, SH, aWQ, aWL, aNN, aNC)) :
    wpX_find__pendingQuery post (nI dc, fnn, fsg, fpt, fpq, fsc, fsl, fhc, D.1, D.2.1, D.2.2.1, D.2.2.2.1, D.2.2.2.2.1, D.2.2.2.2.2, aV, aPT, aPQ, aLQ, aI, aM, aC, aW, aB, aG, aHN, aHS, aHR, aSH, aWQ, aWL, aNN, aNC) (nI l.length) (nI lim) bp ex := by
  have hL := sd_ok_L hD
  refine xr_weigh (fsc := fsc) (fsl := fsl) hP hL ?_
  intro G hG
  obtain ⟨h1, h32, h3, h4⟩ := hP
  have htot : sg_sm (sd_n D.2.2.1) st ≤ 384 := by
    have := sg_sm_le (f := sd_n D.2.2.1) 12 st (fun i _ => (hL i).2)
    omega
  refine xf_forget (fhc := fhc) ?_
  have key : ∀ m d hc (M C V B hN hS hR SH : Nat → Int32), d + m = dc → rk_I (sf_H D st ex l) (sf_R D st bp l) D.1 (fun e => nI (sf_S D st l e)) lim d hc hN hS hR → (∀ k, k < 10 → SH k = nI (sg_cn (sf_C D st ex l k) d)) →
      wX_find__pendingQuery_14 post (nI l.length) (nI lim) bp ex (m + 1) (nI (sg_cn (sf_H D st ex l) d)) (nI d) (nI dc) fnn fsg fpt fpq (nI st) (nI (sg_sm (sd_n D.2.2.1) st)) (nI hc) D.1 D.2.1 D.2.2.1 D.2.2.2.1 D.2.2.2.2.1 D.2.2.2.2.2 aV aPT aPQ aLQ aI M C V B G hN hS hR SH aWQ aWL aNN aNC := by
    intro m
    induction m with
    | zero =>
      intro d hc M C V B hN hS hR SH h hI hs
      obtain rfl : d = dc := by omega
      exact br_t (nI_le (Nat.le_refl _) (by omega)) (hp _ _ hc M C V B G hN hS hR SH hI hs)
    | succ m ih =>
      intro d hc M C V B hN hS hR SH h hI hs
      have ed : (nI d).toNatClampNeg = d := nI_clamp (by omega)
      have hv : vp_in (nI d) 32 := vp_in_nI (by omega) (by omega)
      have I := ih (d + 1)
      have no : sf_H D st ex l d = false → ∀ M C V B : Nat → Int32, wX_find__pendingQuery_14 post (nI l.length) (nI lim) bp ex (m + 1) (nI (sg_cn (sf_H D st ex l) d)) (nI (d + 1)) (nI dc) fnn fsg fpt fpq (nI st) (nI (sg_sm (sd_n D.2.2.1) st)) (nI hc) D.1 D.2.1 D.2.2.1 D.2.2.2.1 D.2.2.2.2.1 D.2.2.2.2.2 aV aPT aPQ aLQ aI M C V B G hN hS hR SH aWQ aWL aNN aNC := by
        intro hf M C V B
        have I' := I hc M C V B hN hS hR SH (by omega) (rk_no hI hf) (fun k hk => by
          rw [sg_cn_f (by unfold sf_C; rw [hf, Bool.false_and]; decide)]
          exact hs k hk)
        rw [sg_cn_f (by rw [hf]; decide)] at I'
        exact I'
      refine br_f (nI_ge (by omega) (by omega)) ⟨hv, ?_⟩
      rw [ed]
      refine br_c (fun hc1 => nm_r (nI_1 _) (no (sf_H_f (fun z => ?_)) M C V B)) (fun hc1 => ⟨hv, br_c (fun hc2 => br_c (fun hc3 => nm_r (nI_1 _) (no (sf_H_f (fun z => z.2.2 hc3)) M C V B)) (fun hc3 => ?_)) (fun hc2 => nm_r (nI_1 _) (no (sf_H_f (fun z => hc2 z.2.1)) M C V B))⟩)
      · obtain ⟨c, hc', e⟩ := h3 d z.1
        rw [e] at hc1
        exact absurd hc1 (sx_nm hc')
      · have hdst : d < st := by
          rcases Nat.lt_or_ge d st with a | a
          · exact a
          · exact absurd (h4 d a (by omega)) hc1
        have eH := sf_H_t (l := l) hdst hc2 hc3
        obtain ⟨ep, hpr⟩ := sd_ok_P hD d
        refine xj_pendingQuery (fr := 0) (W := sd_W D.2.2.2.1 D.2.2.1 st) (len := sd_n D.2.2.1 d) (pr := sd_n D.2.1 d) (by omega) (by omega) (hL d).2 htot hpr (hL d).1 ep hG (fun w _ => sd_W_le _ _ (by omega) w)
          (fun hz => by have := sg_sm_ge (f := sd_n D.2.2.1) st d hdst; omega) (by omega) (by omega) hH htk hb ?_
        intro M C V B
        have eA : sx_ans (sv_rm (sd_W D.2.2.2.1 D.2.2.1 st) (sv_own (sd_n D.2.2.1 d) st (sg_sm (sd_n D.2.2.1) st)) (fun i => D.2.2.2.1 (12 * d + i)) (sd_n D.2.2.1 d) (sd_n D.2.1 d) l) (sv_rs (sd_W D.2.2.2.1 D.2.2.1 st) (sv_own (sd_n D.2.2.1 d) st (sg_sm (sd_n D.2.2.1) st)) (fun i => D.2.2.2.1 (12 * d + i)) (sd_n D.2.2.1 d) (sd_n D.2.1 d) l) = sx_ans (sf_M D st l d) (sf_S D st l d) := rfl
        rw [eA]
        have hsle := sf_S_le D (show st ≤ 32 by omega) l d
        cases hm : sf_M D st l d with
        | false => exact br_t rfl (nm_r (nI_1 _) (no (by rw [eH, hm]) M C V B))
        | true =>
          rw [hm] at eH
          have hr : sx_ans true (sf_S D st l d) = nI (sf_S D st l d) := rfl
          rw [hr]
          have hcl : hc ≤ lim := by have := hI.1; omega
          refine br_f (sx_nm (by omega)) (nm_r (nI_1 _) ⟨hv, by decide, ?_⟩)
          have e10 : D.2.1 d / 10 = nI (sd_n D.2.1 d / 10) := by
            rw [ep]
            show nI (sd_n D.2.1 d) / nI 10 = _
            rw [pk_div (by omega) (by omega) (by omega)]
          have hs' : ∀ k, k < 10 → upd SH (sd_n D.2.1 d / 10) (SH (sd_n D.2.1 d / 10) + 1) k = nI (sg_cn (sf_C D st ex l k) (d + 1)) := by
            intro k hk
            by_cases e : k = sd_n D.2.1 d / 10
            · subst e
              rw [pk_us, hs _ hk, nI_1, sg_cn_t (by unfold sf_C; rw [eH, decide_eq_true rfl]; rfl)]
            · rw [pk_un e, hs k hk, sg_cn_f (by unfold sf_C; rw [decide_eq_false (fun z => e z.symm), Bool.and_false]; decide)]
          have fin : ∀ z : Int32, sf_R D st bp l d = z → wX_find__pendingQuery_114 post (wX_find__pendingQuery_14 post (nI l.length) (nI lim) bp ex (m + 1)) (nI l.length) (nI lim) bp ex (nI (sg_cn (sf_H D st ex l) d + 1)) (nI d) (nI (sf_S D st l d)) z (nI dc) fnn fsg fpt fpq (nI st) (nI (sg_sm (sd_n D.2.2.1) st)) (nI hc) D.1 D.2.1 D.2.2.1 D.2.2.2.1 D.2.2.2.2.1 D.2.2.2.2.2 aV aPT aPQ aLQ aI M C V B G hN hS hR (upd SH (sd_n D.2.1 d / 10) (SH (sd_n D.2.1 d / 10) + 1)) aWQ aWL aNN aNC := by
            intro z hz
            refine ⟨hv, ?_⟩
            rw [ed]
            rw [← hz]
            have ecn : sg_cn (sf_H D st ex l) (d + 1) = sg_cn (sf_H D st ex l) d + 1 := sg_cn_t eH
            refine xf_keep hlim hcl (fun pl hPl hle => ?_) (fun pl hc' hPl hlt he => ?_)
            · have I' := I hc M C V B hN hS hR _ (by omega) (rk_skip hI eH hPl hle) hs'
              rw [ecn] at I'
              exact nm_r (nI_1 _) I'
            · have I' := I hc' M C V B _ _ _ _ (by omega) (rk_step hI eH hPl hlt hc' he) hs'
              rw [ecn] at I'
              exact nm_r (nI_1 _) I'
          rw [e10, nI_clamp (by omega)]
          refine ⟨vp_in_nI (by omega) (by omega), vp_in_nI (by omega) (by omega), nm_e ?_⟩
          by_cases hbp : bp = 0
          · exact br_t hbp (fin _ (by unfold sf_R; rw [if_pos hbp]))
          · exact br_f hbp ⟨hv, fin _ (by unfold sf_R; rw [if_neg hbp])⟩
  exact Exists.intro (dc + 1) (key dc 0 0 aM aC aW aB aHN aHS aHR _ (Nat.zero_add _) ⟨(Nat.zero_min _).symm, fun p hp => absurd hp (Nat.not_lt_zero p)⟩ (fun k hk => by
    have := sd_cy_in (a := aSH) (b := 0) (s := fun _ => 0) (c := 0) (m := 10) (i := k) hk
    rw [Nat.zero_add] at this
    rw [this]; rfl))
end
section
variable {fdc fnn fsg fpt fpq fsc fsl fhc : Int32} {aN aP aL aT aS aD aV aPT aPQ aLQ aI aM aC aW aB aG aHN aHS aHR aSH aWQ aWL aNN aNC : Nat → Int32}
theorem xf_likeQuery {D : sd_D} {dc st lim : Nat} {l : List Nat} {bp ex : Int32} (hD : sd_ok D) (hP : sd_P D.2.2.2.2.1 st dc) (hl : l.length ≤ 15) (hH : sr_H aLQ 0 l) (htk : sv_tks l) {kk : Bool} (hb : sq_b l = some [kk]) (hlim : lim ≤ 10) {post : Int32 → SX → Prop}
    (hp : ∀ (c1 c2 : Int32) (hc : Nat) (M C V B G hN hS hR SH : Nat → Int32), rk_I (sf_H D st ex l) (sf_R D st bp l) D.1 (fun e => nI (sf_S D st l e)) lim dc hc hN hS hR → (∀ k, k < 10 → SH k = nI (sg_cn (sf_C D st ex l k) dc)) →
      post (nI (sg_cn (sf_H D st ex l) dc)) (nI dc, fnn, fsg, fpt, fpq, c1, c2, nI hc, D.1, D.2.1, D.2.2.1, D.2.2.2.1, D.2.2.2.2.1, D.2.2.2.2.2, aV, aPT, aPQ, aLQ, aI, M, C, V, B, G, hN, hS, hR, SH, aWQ, aWL, aNN, aNC)) :
    wpX_find__likeQuery post (nI dc, fnn, fsg, fpt, fpq, fsc, fsl, fhc, D.1, D.2.1, D.2.2.1, D.2.2.2.1, D.2.2.2.2.1, D.2.2.2.2.2, aV, aPT, aPQ, aLQ, aI, aM, aC, aW, aB, aG, aHN, aHS, aHR, aSH, aWQ, aWL, aNN, aNC) (nI l.length) (nI lim) bp ex := by
  have hL := sd_ok_L hD
  refine xr_weigh (fsc := fsc) (fsl := fsl) hP hL ?_
  intro G hG
  obtain ⟨h1, h32, h3, h4⟩ := hP
  have htot : sg_sm (sd_n D.2.2.1) st ≤ 384 := by
    have := sg_sm_le (f := sd_n D.2.2.1) 12 st (fun i _ => (hL i).2)
    omega
  refine xf_forget (fhc := fhc) ?_
  have key : ∀ m d hc (M C V B hN hS hR SH : Nat → Int32), d + m = dc → rk_I (sf_H D st ex l) (sf_R D st bp l) D.1 (fun e => nI (sf_S D st l e)) lim d hc hN hS hR → (∀ k, k < 10 → SH k = nI (sg_cn (sf_C D st ex l k) d)) →
      wX_find__likeQuery_14 post (nI l.length) (nI lim) bp ex (m + 1) (nI (sg_cn (sf_H D st ex l) d)) (nI d) (nI dc) fnn fsg fpt fpq (nI st) (nI (sg_sm (sd_n D.2.2.1) st)) (nI hc) D.1 D.2.1 D.2.2.1 D.2.2.2.1 D.2.2.2.2.1 D.2.2.2.2.2 aV aPT aPQ aLQ aI M C V B G hN hS hR SH aWQ aWL aNN aNC := by
    intro m
    induction m with
    | zero =>
      intro d hc M C V B hN hS hR SH h hI hs
      obtain rfl : d = dc := by omega
      exact br_t (nI_le (Nat.le_refl _) (by omega)) (hp _ _ hc M C V B G hN hS hR SH hI hs)
    | succ m ih =>
      intro d hc M C V B hN hS hR SH h hI hs
      have ed : (nI d).toNatClampNeg = d := nI_clamp (by omega)
      have hv : vp_in (nI d) 32 := vp_in_nI (by omega) (by omega)
      have I := ih (d + 1)
      have no : sf_H D st ex l d = false → ∀ M C V B : Nat → Int32, wX_find__likeQuery_14 post (nI l.length) (nI lim) bp ex (m + 1) (nI (sg_cn (sf_H D st ex l) d)) (nI (d + 1)) (nI dc) fnn fsg fpt fpq (nI st) (nI (sg_sm (sd_n D.2.2.1) st)) (nI hc) D.1 D.2.1 D.2.2.1 D.2.2.2.1 D.2.2.2.2.1 D.2.2.2.2.2 aV aPT aPQ aLQ aI M C V B G hN hS hR SH aWQ aWL aNN aNC := by
        intro hf M C V B
        have I' := I hc M C V B hN hS hR SH (by omega) (rk_no hI hf) (fun k hk => by
          rw [sg_cn_f (by unfold sf_C; rw [hf, Bool.false_and]; decide)]
          exact hs k hk)
        rw [sg_cn_f (by rw [hf]; decide)] at I'
        exact I'
      refine br_f (nI_ge (by omega) (by omega)) ⟨hv, ?_⟩
      rw [ed]
      refine br_c (fun hc1 => nm_r (nI_1 _) (no (sf_H_f (fun z => ?_)) M C V B)) (fun hc1 => ⟨hv, br_c (fun hc2 => br_c (fun hc3 => nm_r (nI_1 _) (no (sf_H_f (fun z => z.2.2 hc3)) M C V B)) (fun hc3 => ?_)) (fun hc2 => nm_r (nI_1 _) (no (sf_H_f (fun z => hc2 z.2.1)) M C V B))⟩)
      · obtain ⟨c, hc', e⟩ := h3 d z.1
        rw [e] at hc1
        exact absurd hc1 (sx_nm hc')
      · have hdst : d < st := by
          rcases Nat.lt_or_ge d st with a | a
          · exact a
          · exact absurd (h4 d a (by omega)) hc1
        have eH := sf_H_t (l := l) hdst hc2 hc3
        obtain ⟨ep, hpr⟩ := sd_ok_P hD d
        refine xj_likeQuery (fr := 0) (W := sd_W D.2.2.2.1 D.2.2.1 st) (len := sd_n D.2.2.1 d) (pr := sd_n D.2.1 d) (by omega) (by omega) (hL d).2 htot hpr (hL d).1 ep hG (fun w _ => sd_W_le _ _ (by omega) w)
          (fun hz => by have := sg_sm_ge (f := sd_n D.2.2.1) st d hdst; omega) (by omega) (by omega) hH htk hb ?_
        intro M C V B
        have eA : sx_ans (sv_rm (sd_W D.2.2.2.1 D.2.2.1 st) (sv_own (sd_n D.2.2.1 d) st (sg_sm (sd_n D.2.2.1) st)) (fun i => D.2.2.2.1 (12 * d + i)) (sd_n D.2.2.1 d) (sd_n D.2.1 d) l) (sv_rs (sd_W D.2.2.2.1 D.2.2.1 st) (sv_own (sd_n D.2.2.1 d) st (sg_sm (sd_n D.2.2.1) st)) (fun i => D.2.2.2.1 (12 * d + i)) (sd_n D.2.2.1 d) (sd_n D.2.1 d) l) = sx_ans (sf_M D st l d) (sf_S D st l d) := rfl
        rw [eA]
        have hsle := sf_S_le D (show st ≤ 32 by omega) l d
        cases hm : sf_M D st l d with
        | false => exact br_t rfl (nm_r (nI_1 _) (no (by rw [eH, hm]) M C V B))
        | true =>
          rw [hm] at eH
          have hr : sx_ans true (sf_S D st l d) = nI (sf_S D st l d) := rfl
          rw [hr]
          have hcl : hc ≤ lim := by have := hI.1; omega
          refine br_f (sx_nm (by omega)) (nm_r (nI_1 _) ⟨hv, by decide, ?_⟩)
          have e10 : D.2.1 d / 10 = nI (sd_n D.2.1 d / 10) := by
            rw [ep]
            show nI (sd_n D.2.1 d) / nI 10 = _
            rw [pk_div (by omega) (by omega) (by omega)]
          have hs' : ∀ k, k < 10 → upd SH (sd_n D.2.1 d / 10) (SH (sd_n D.2.1 d / 10) + 1) k = nI (sg_cn (sf_C D st ex l k) (d + 1)) := by
            intro k hk
            by_cases e : k = sd_n D.2.1 d / 10
            · subst e
              rw [pk_us, hs _ hk, nI_1, sg_cn_t (by unfold sf_C; rw [eH, decide_eq_true rfl]; rfl)]
            · rw [pk_un e, hs k hk, sg_cn_f (by unfold sf_C; rw [decide_eq_false (fun z => e z.symm), Bool.and_false]; decide)]
          have fin : ∀ z : Int32, sf_R D st bp l d = z → wX_find__likeQuery_114 post (wX_find__likeQuery_14 post (nI l.length) (nI lim) bp ex (m + 1)) (nI l.length) (nI lim) bp ex (nI (sg_cn (sf_H D st ex l) d + 1)) (nI d) (nI (sf_S D st l d)) z (nI dc) fnn fsg fpt fpq (nI st) (nI (sg_sm (sd_n D.2.2.1) st)) (nI hc) D.1 D.2.1 D.2.2.1 D.2.2.2.1 D.2.2.2.2.1 D.2.2.2.2.2 aV aPT aPQ aLQ aI M C V B G hN hS hR (upd SH (sd_n D.2.1 d / 10) (SH (sd_n D.2.1 d / 10) + 1)) aWQ aWL aNN aNC := by
            intro z hz
            refine ⟨hv, ?_⟩
            rw [ed]
            rw [← hz]
            have ecn : sg_cn (sf_H D st ex l) (d + 1) = sg_cn (sf_H D st ex l) d + 1 := sg_cn_t eH
            refine xf_keep hlim hcl (fun pl hPl hle => ?_) (fun pl hc' hPl hlt he => ?_)
            · have I' := I hc M C V B hN hS hR _ (by omega) (rk_skip hI eH hPl hle) hs'
              rw [ecn] at I'
              exact nm_r (nI_1 _) I'
            · have I' := I hc' M C V B _ _ _ _ (by omega) (rk_step hI eH hPl hlt hc' he) hs'
              rw [ecn] at I'
              exact nm_r (nI_1 _) I'
          rw [e10, nI_clamp (by omega)]
          refine ⟨vp_in_nI (by omega) (by omega), vp_in_nI (by omega) (by omega), nm_e ?_⟩
          by_cases hbp : bp = 0
          · exact br_t hbp (fin _ (by unfold sf_R; rw [if_pos hbp]))
          · exact br_f hbp ⟨hv, fin _ (by unfold sf_R; rw [if_neg hbp])⟩
  exact Exists.intro (dc + 1) (key dc 0 0 aM aC aW aB aHN aHS aHR _ (Nat.zero_add _) ⟨(Nat.zero_min _).symm, fun p hp => absurd hp (Nat.not_lt_zero p)⟩ (fun k hk => by
    have := sd_cy_in (a := aSH) (b := 0) (s := fun _ => 0) (c := 0) (m := 10) (i := k) hk
    rw [Nat.zero_add] at this
    rw [this]; rfl))
end
end
section
/-! the kinds on X's stack -/
def sx_K (a : Nat → Int32) : List Bool → Prop
  | [] => True
  | v :: r => a r.length = sg_B v ∧ sx_K a r
theorem sx_K_fr {a b : Nat → Int32} : ∀ {st : List Bool}, (∀ p, p < st.length → b p = a p) → sx_K a st → sx_K b st
  | [], _, _ => trivial
  | v :: r, f, h => ⟨by rw [f r.length (by rw [List.length_cons]; omega)]; exact h.1, sx_K_fr (fun p hp => f p (by rw [List.length_cons]; omega)) h.2⟩
theorem sq_none {l : List Nat} {i : Nat} (hi : i ≤ l.length) (h : sq_b (l.drop i) = none) : sq_b l = none := by
  cases hb : sq_b l with
  | none => rfl
  | some st =>
    obtain ⟨st', h'⟩ := sq_b_drop hb i hi
    rw [h] at h'
    exact absurd h' (by simp)
theorem sr_H_app {a : Nat → Int32} {b t : Nat} {q : List Nat} (h : sr_H a b q) : sr_H (upd a (b + q.length) (nI t)) b (q ++ [t]) := by
  intro i hi
  rw [List.length_append] at hi
  have hi' : i < q.length + 1 := hi
  rcases Nat.lt_or_ge i q.length with h1 | h1
  · rw [pk_un (by omega), h i h1]
    congr 1
    rw [List.getD_eq_getElem?_getD, List.getD_eq_getElem?_getD, List.getElem?_append_left h1]
  · obtain rfl : i = q.length := by omega
    rw [pk_us]
    congr 1
    rw [List.getD_eq_getElem?_getD, List.getElem?_append_right (Nat.le_refl _), Nat.sub_self]; rfl
theorem sr_H_0 (a : Nat → Int32) (b : Nat) : sr_H a b [] := fun i hi => absurd hi (Nat.not_lt_zero i)
def sl_ws (D : sd_D) (d k : Nat) : List Nat := (List.range k).filter (fun w => sd_hw D.2.2.2.1 D.2.2.1 w d)
theorem sl_ws_s (D : sd_D) (d k : Nat) : sl_ws D d (k + 1) = if sd_hw D.2.2.2.1 D.2.2.1 k d = true then sl_ws D d k ++ [k] else sl_ws D d k := by
  unfold sl_ws
  rw [List.range_succ, List.filter_append]
  split
  · rename_i h
    rw [List.filter_cons, if_pos h]; rfl
  · rename_i h
    rw [List.filter_cons, if_neg h]; simp
theorem sl_ws_len (D : sd_D) (d : Nat) : ∀ k, (sl_ws D d k).length = sg_cn (fun w => sd_hw D.2.2.2.1 D.2.2.1 w d) k
  | 0 => rfl
  | k + 1 => by
    have ih := sl_ws_len D d k
    rw [sl_ws_s]
    show _ = sg_cn (fun w => sd_hw D.2.2.2.1 D.2.2.1 w d) k + (if sd_hw D.2.2.2.1 D.2.2.1 k d = true then 1 else 0)
    split
    · rw [List.length_append, ih]; rfl
    · rw [ih]; rfl
theorem sl_ws_lt {D : sd_D} {d k w : Nat} (h : w ∈ sl_ws D d k) : w < k := List.mem_range.mp (List.mem_filter.mp h).1
def sd_tx (T : Nat → Int32) : Prop := ∀ j, ∃ n, n < 8 ∧ T j = nI n
theorem sl_ws_ne {D : sd_D} {d : Nat} (hT : sd_tx D.2.2.2.1) (h : 0 < sd_n D.2.2.1 d) : sl_ws D d 8 ≠ [] := by
  obtain ⟨n, h1, h2⟩ := hT (12 * d + 0)
  intro e
  have : n ∈ sl_ws D d 8 := List.mem_filter.mpr ⟨List.mem_range.mpr h1, (sd_hs_iff _).mpr ⟨0, h, h2⟩⟩
  rw [e] at this
  exact absurd this (by simp)
section
variable {fdc fnn fsg fpt fpq fsc fsl fhc : Int32} {aN aP aL aT aS aD aV aPT aPQ aLQ aI aM aC aW aB aG aHN aHS aHR aSH aWQ aWL aNN aNC : Nat → Int32}
theorem xe_expr {q : List Nat} (h12 : q.length ≤ 12) (htk : sv_tks q) (hH : sr_H aPQ 0 q) {post : Int32 → SX → Prop}
    (h1 : (∃ v, sq_b q = some [v]) → ∀ I : Nat → Int32, post 1 (fdc, fnn, fsg, fpt, nI q.length, fsc, fsl, fhc, aN, aP, aL, aT, aS, aD, aV, aPT, aPQ, aLQ, I, aM, aC, aW, aB, aG, aHN, aHS, aHR, aSH, aWQ, aWL, aNN, aNC)) (h0 : ¬ (∃ v, sq_b q = some [v]) → ∀ I : Nat → Int32, post 0 (fdc, fnn, fsg, fpt, nI q.length, fsc, fsl, fhc, aN, aP, aL, aT, aS, aD, aV, aPT, aPQ, aLQ, I, aM, aC, aW, aB, aG, aHN, aHS, aHR, aSH, aWQ, aWL, aNN, aNC)) :
    wpX_pendingIsExpression post (fdc, fnn, fsg, fpt, nI q.length, fsc, fsl, fhc, aN, aP, aL, aT, aS, aD, aV, aPT, aPQ, aLQ, aI, aM, aC, aW, aB, aG, aHN, aHS, aHR, aSH, aWQ, aWL, aNN, aNC) := by
  have key : ∀ i, i ≤ q.length → ∀ (I : Nat → Int32) (st : List Bool), sq_b (q.drop i) = some st → sx_K I st →
      wX_pendingIsExpression_9 post fdc fnn fsg fpt (nI q.length) fsc fsl fhc (i + 1) (nI st.length) (nI i - 1) aN aP aL aT aS aD aV aPT aPQ aLQ I aM aC aW aB aG aHN aHS aHR aSH aWQ aWL aNN aNC := by
    intro i
    induction i with
    | zero =>
      intro _ I st hs hK
      rw [List.drop_zero] at hs
      have hle := sq_b_len hs
      refine br_t (by decide) (br_c (fun hc => ?_) (fun hc => ?_))
      · have hl : st.length = 1 := (nI_eq (b := 1) (by omega) (by decide)).mp hc
        obtain ⟨v, rfl⟩ : ∃ v, st = [v] := List.length_eq_one_iff.mp hl
        exact h1 ⟨v, hs⟩ I
      · refine h0 (fun ⟨v, hv⟩ => hc ?_) I
        rw [hs] at hv
        rw [Option.some.inj hv]; rfl
    | succ i ih =>
      intro hi I st hs hK
      have hdr := sr_drop (l := q) (i := i) (by omega)
      have hQ := hH i (by omega)
      rw [Nat.zero_add] at hQ
      have ht := htk _ (sr_getD_mem (l := q) (i := i) (by omega))
      have ih' := ih (by omega)
      have hno : sq_b (q.drop i) = none → ¬ (∃ v, sq_b q = some [v]) := by
        intro hn
        rw [sq_none (by omega) hn]
        rintro ⟨v, hv⟩
        exact absurd hv (by simp)
      have hsl : st.length + (i + 1) ≤ q.length := by
        have := sq_b_len hs
        rw [List.length_drop] at this
        omega
      have eb : sq_b (q.drop i) = sq_bs (q.getD i 0) (some st) := by
        rw [hdr]
        show sq_bs _ (sq_b (q.drop (i + 1))) = _
        rw [hs]
      rw [eb] at ih' hno
      generalize q.getD i 0 = t at hQ ht ih' hno
      have ht2 : t < 2 ^ 31 := by unfold sv_tk at ht; omega
      have em : nI i + (-1) = nI i - 1 := (Int32.sub_eq_add_neg _ _).symm
      rw [nI_pred]
      refine br_f (nI_pos (by omega)) ⟨vp_in_nI (by omega) (by omega), ?_⟩
      rw [nI_clamp (by omega)]
      refine nm_r hQ ?_
      by_cases hj : 8 ≤ t ∧ t ≤ 12
      · refine xj_j1 hj.1 hj.2 (br_f (by decide) ?_)
        unfold sq_bs at ih' hno
        simp only at ih' hno
        rw [if_pos hj] at ih' hno
        match st, hsl, hK, ih', hno with
        | [], hsl, hK, ih', hno => exact br_f (by decide) (h0 (hno rfl) I)
        | [a], hsl, hK, ih', hno => exact br_f (show ¬ (2 : Int32) ≤ nI 1 by decide) (h0 (hno rfl) I)
        | a :: b :: r, hsl, hK, ih', hno =>
          rw [List.length_cons, List.length_cons] at hsl ⊢
          obtain ⟨ka, kb, kr⟩ := hK
          rw [List.length_cons] at ka
          have hv1 : vp_in (nI (r.length + 1)) 15 := vp_in_nI (by omega) (by omega)
          have hv0 : vp_in (nI r.length) 15 := vp_in_nI (by omega) (by omega)
          refine br_t (nI_le (a := 2) (by omega) (by omega)) (nm_r (pk_m1 _) ⟨hv1, ?_⟩)
          rw [nI_clamp (n := r.length + 1) (by omega), ka, nI_pred, nI_clamp (n := r.length) (by omega), kb]
          have f94 : ∀ z : Bool, decide (t = 11 ∨ t = 12) = z → sq_bs t (some (a :: b :: r)) = some (z :: r) → wX_pendingIsExpression_94 post (wX_pendingIsExpression_9 post fdc fnn fsg fpt (nI q.length) fsc fsl fhc (i + 1)) (nI (r.length + 1)) (nI i) (nI t) fdc fnn fsg fpt (nI q.length) fsc fsl fhc aN aP aL aT aS aD aV aPT aPQ aLQ I aM aC aW aB aG aHN aHS aHR aSH aWQ aWL aNN aNC := by
            intro z hz hq
            have go : (fun r_14 : Int32 => (vp_in (nI (r.length + 1) - 1) 15 ∧ ∀ a_partIsSpans_16 : Nat → Int32, a_partIsSpans_16 = upd I (nI (r.length + 1) - 1).toNatClampNeg (vp_nar .boolean r_14) → (∀ x2_17 : Int32, x2_17 = nI i + (-1) → (wX_pendingIsExpression_9 post fdc fnn fsg fpt (nI q.length) fsc fsl fhc (i + 1) (nI (r.length + 1)) x2_17 aN aP aL aT aS aD aV aPT aPQ aLQ a_partIsSpans_16 aM aC aW aB aG aHN aHS aHR aSH aWQ aWL aNN aNC)))) (sg_B z) := by
              show vp_in (nI (r.length + 1) - 1) 15 ∧ _
              rw [nI_pred, nI_clamp (by omega)]
              refine ⟨hv0, nm_r (by rw [sx_nb (sg_B_01 z)]) (nm_r em ?_)⟩
              have hq' := hq
              unfold sq_bs at hq'
              simp only at hq'
              rw [if_pos hj] at hq'
              exact ih' _ (z :: r) hq' ⟨pk_us, sx_K_fr (fun p hp => pk_un (by omega)) kr⟩
            by_cases hs : t = 11 ∨ t = 12
            · rw [decide_eq_true hs] at hz
              subst hz
              exact xj_s1 hs go
            · rw [decide_eq_false hs] at hz
              subst hz
              exact xj_s0 ht2 (by omega) (by omega) go
          have f78 : ∀ z : Bool, (a && b) = z → wX_pendingIsExpression_78 post (wX_pendingIsExpression_9 post fdc fnn fsg fpt (nI q.length) fsc fsl fhc (i + 1)) (nI (r.length + 1)) (nI i) (nI t) (sg_B z) fdc fnn fsg fpt (nI q.length) fsc fsl fhc aN aP aL aT aS aD aV aPT aPQ aLQ I aM aC aW aB aG aHN aHS aHR aSH aWQ aWL aNN aNC := by
            intro z hz
            by_cases hs : t = 11 ∨ t = 12
            · refine xj_s1 hs (br_f (by decide) ?_)
              cases z with
              | true =>
                refine br_f (by decide) (f94 true (decide_eq_true hs) ?_)
                unfold sq_bs
                simp only
                rw [if_pos hj, decide_eq_true hs]
                rw [if_neg (fun zz => zz.2 (Bool.and_eq_true_iff.mp hz))]
              | false =>
                refine br_t rfl (h0 (hno ?_) I)
                show (if (t = 11 ∨ t = 12) ∧ ¬ (a = true ∧ b = true) then none else some (decide (t = 11 ∨ t = 12) :: r)) = none
                rw [if_pos ⟨hs, fun zz => by rw [zz.1, zz.2] at hz; exact absurd hz (by decide)⟩]
            · refine xj_s0 ht2 (by omega) (by omega) (br_t rfl (f94 false (decide_eq_false hs) ?_))
              unfold sq_bs
              simp only
              rw [if_pos hj, decide_eq_false hs, if_neg (fun zz => hs zz.1)]
          cases a with
          | false => exact br_t rfl (f78 false (by cases b <;> rfl))
          | true =>
            refine br_f (by decide) ⟨hv0, ?_⟩
            cases b with
            | false => exact br_t rfl (f78 false rfl)
            | true => exact br_f (by decide) (f78 true rfl)
      · refine xj_j0 (by omega) ht2 (br_t rfl ?_)
        unfold sq_bs at ih'
        simp only at ih'
        rw [if_neg hj] at ih'
        have go : ∀ z : Bool, decide (t < 8) = z → (fun r_21 : Int32 => (vp_in (nI st.length) 15 ∧ ∀ a_partIsSpans_23 : Nat → Int32, a_partIsSpans_23 = upd I (nI st.length).toNatClampNeg (vp_nar .boolean r_21) → (∀ x1_24 : Int32, x1_24 = nI st.length + 1 → (∀ x2_25 : Int32, x2_25 = nI i + (-1) → (wX_pendingIsExpression_9 post fdc fnn fsg fpt (nI q.length) fsc fsl fhc (i + 1) x1_24 x2_25 aN aP aL aT aS aD aV aPT aPQ aLQ a_partIsSpans_23 aM aC aW aB aG aHN aHS aHR aSH aWQ aWL aNN aNC))))) (sg_B z) := by
          intro z hz
          show vp_in (nI st.length) 15 ∧ _
          rw [nI_clamp (by omega)]
          refine ⟨vp_in_nI (by omega) (by omega), nm_r (by rw [sx_nb (sg_B_01 z)]) (nm_r (nI_1 _) (nm_r em ?_))⟩
          exact ih' _ (z :: st) (by rw [hz]) ⟨pk_us, sx_K_fr (fun p hp => pk_un (by omega)) hK⟩
        by_cases hw : t < 8
        · exact xj_w1 hw (go true (decide_eq_true hw))
        · exact xj_w0 (by omega) ht2 (go false (decide_eq_false hw))
  have k0 := key q.length (Nat.le_refl _) aI [] (by rw [List.drop_length]; rfl) trivial
  exact nm_e (Exists.intro (q.length + 1) k0)
theorem xe_like {D : sd_D} {d : Nat} (hd : d < 32) (hL : sd_L D.2.2.1) (hT : sd_tx D.2.2.2.1) (hn : 0 < sd_n D.2.2.1 d) {post : Int32 → SX → Prop}
    (hp : ∀ LQ : Nat → Int32, sr_H LQ 0 (sv_lx (sl_ws D d 8)) → post (nI (sv_lx (sl_ws D d 8)).length) (fdc, fnn, fsg, fpt, fpq, fsc, fsl, fhc, D.1, D.2.1, D.2.2.1, D.2.2.2.1, D.2.2.2.2.1, D.2.2.2.2.2, aV, aPT, aPQ, LQ, aI, aM, aC, aW, aB, aG, aHN, aHS, aHR, aSH, aWQ, aWL, aNN, aNC)) : wpX_fillLikeQuery post (fdc, fnn, fsg, fpt, fpq, fsc, fsl, fhc, D.1, D.2.1, D.2.2.1, D.2.2.2.1, D.2.2.2.2.1, D.2.2.2.2.2, aV, aPT, aPQ, aLQ, aI, aM, aC, aW, aB, aG, aHN, aHS, aHR, aSH, aWQ, aWL, aNN, aNC) (nI d) := by
  have hne := sl_ws_ne hT hn
  have hpos : 0 < (sl_ws D d 8).length := List.length_pos_iff.mpr hne
  have hlen := sl_ws_len D d
  have hcl : ∀ k, (sl_ws D d k).length ≤ k := fun k => by rw [hlen]; exact sg_cn_le _ _
  have h8 := hcl 8
  generalize hj : (sl_ws D d 8).length - 1 = j
  have l62 : ∀ m w (Q : Nat → Int32), w + m = 8 → sr_H Q 0 (List.replicate j 9 ++ sl_ws D d w) →
      wX_fillLikeQuery_62 post (nI d) fdc fnn fsg fpt fpq fsc fsl fhc (m + 1) (nI (List.replicate j 9 ++ sl_ws D d w).length) (nI w) D.1 D.2.1 D.2.2.1 D.2.2.2.1 D.2.2.2.2.1 D.2.2.2.2.2 aV aPT aPQ Q aI aM aC aW aB aG aHN aHS aHR aSH aWQ aWL aNN aNC := by
    intro m
    induction m with
    | zero =>
      intro w Q h hQ
      obtain rfl : w = 8 := by omega
      refine br_t (nI_le (b := 8) (Nat.le_refl _) (by decide)) ?_
      have e : List.replicate j 9 ++ sl_ws D d 8 = sv_lx (sl_ws D d 8) := by unfold sv_lx; rw [hj]
      rw [e] at hQ ⊢
      exact hp Q hQ
    | succ m ih =>
      intro w Q h hQ
      have hw := hcl w
      refine br_f (nI_ge (b := 8) (by omega) (by decide)) ?_
      refine xr_hasWord (d := d) (len := sd_n D.2.2.1 d) hd (hL d).1 (hL d).2 ?_
      have I := ih (w + 1)
      rw [sl_ws_s] at I
      cases hh : sd_hs D.2.2.2.1 (12 * d) (nI w) (sd_n D.2.2.1 d) with
      | true =>
        rw [if_pos (show sd_hw D.2.2.2.1 D.2.2.1 w d = true from hh), ← List.append_assoc] at I
        have hl : (List.replicate j 9 ++ sl_ws D d w).length < 15 := by rw [List.length_append, List.length_replicate]; omega
        refine br_f (by decide) ⟨vp_in_nI hl (by omega), ?_⟩
        rw [nI_clamp (by omega)]
        have hA := sr_H_app (t := w) hQ
        rw [Nat.zero_add] at hA
        have I' := I _ (by omega) hA
        rw [List.length_append (as := List.replicate j 9 ++ sl_ws D d w)] at I'
        exact nm_e (nm_r (nI_1 _) (nm_r (nI_1 _) I'))
      | false =>
        rw [if_neg (by unfold sd_hw; rw [hh]; decide)] at I
        exact br_t rfl (nm_r (nI_1 _) (I Q (by omega) hQ))
  have l36 : ∀ m k (Q : Nat → Int32), k + m = j → sr_H Q 0 (List.replicate k 9) → wX_fillLikeQuery_36 post (nI d) (nI j) fdc fnn fsg fpt fpq fsc fsl fhc (m + 1) (nI k) (nI k) D.1 D.2.1 D.2.2.1 D.2.2.2.1 D.2.2.2.2.1 D.2.2.2.2.2 aV aPT aPQ Q aI aM aC aW aB aG aHN aHS aHR aSH aWQ aWL aNN aNC := by
    intro m
    induction m with
    | zero =>
      intro k Q h hQ
      obtain rfl : k = j := by omega
      refine br_t (nI_le (Nat.le_refl _) (by omega)) (Exists.intro 9 ?_)
      have L := l62 8 0 Q rfl (by rw [show sl_ws D d 0 = [] from rfl, List.append_nil]; exact hQ)
      rw [show sl_ws D d 0 = [] from rfl, List.append_nil, List.length_replicate] at L
      exact L
    | succ m ih =>
      intro k Q h hQ
      refine br_f (nI_ge (by omega) (by omega)) ⟨vp_in_nI (by omega) (by omega), ?_⟩
      rw [nI_clamp (by omega)]
      have hA := sr_H_app (t := 9) hQ
      rw [Nat.zero_add, List.length_replicate, ← List.replicate_succ'] at hA
      exact nm_e (nm_r (nI_1 _) (nm_r (nI_1 _) (ih (k + 1) _ (by omega) hA)))
  have l7 : ∀ m w, w + m = 8 → wX_fillLikeQuery_7 post (nI d) 0 fdc fnn fsg fpt fpq fsc fsl fhc D.1 D.2.1 D.2.2.1 D.2.2.2.1 D.2.2.2.2.1 D.2.2.2.2.2 aV aPT aPQ aLQ aI aM aC aW aB aG aHN aHS aHR aSH aWQ aWL aNN aNC (m + 1) (nI (sg_cn (fun w => sd_hw D.2.2.2.1 D.2.2.1 w d) w) - 1) (nI w) := by
    intro m
    induction m with
    | zero =>
      intro w h
      obtain rfl : w = 8 := by omega
      rw [← hlen 8]
      have e : nI (sl_ws D d 8).length - 1 = nI j := by
        have e2 : (sl_ws D d 8).length = j + 1 := by omega
        rw [e2, nI_pred]
      rw [e]
      exact br_t (nI_le (b := 8) (Nat.le_refl _) (by decide)) (Exists.intro (j + 1) (l36 j 0 aLQ (Nat.zero_add _) (sr_H_0 _ _)))
    | succ m ih =>
      intro w h
      refine br_f (nI_ge (b := 8) (by omega) (by decide)) ?_
      refine xr_hasWord (d := d) (len := sd_n D.2.2.1 d) hd (hL d).1 (hL d).2 ?_
      have I := ih (w + 1) (by omega)
      cases hh : sd_hs D.2.2.2.1 (12 * d) (nI w) (sd_n D.2.2.1 d) with
      | true =>
        rw [sg_cn_t (p := fun w => sd_hw D.2.2.2.1 D.2.2.1 w d) hh] at I
        refine br_f (by decide) (nm_r ?_ (nm_r (nI_1 _) I))
        rw [← nI_1]
        grind
      | false =>
        rw [sg_cn_f (p := fun w => sd_hw D.2.2.2.1 D.2.2.1 w d) (by show ¬ sd_hs D.2.2.2.1 (12 * d) (nI w) (sd_n D.2.2.1 d) = true; rw [hh]; decide)] at I
        exact br_t rfl (nm_r (nI_1 _) I)
  exact Exists.intro 9 (l7 8 0 rfl)
end
end
section
theorem yw_in1 {x lo hi : Int32} (h1 : ¬ x < lo) (h2 : ¬ hi < x) {post : Int32 → Prop} (hp : post 1) : wpY_within post x lo hi := br_f h1 (br_f h2 hp)
theorem yw_in0 {x lo hi : Int32} (h : x < lo ∨ hi < x) {post : Int32 → Prop} (hp : post 0) : wpY_within post x lo hi := br_c (fun _ => hp) (fun h1 => by
  rcases h with h | h
  · exact absurd h h1
  · exact br_t h hp)
theorem sd_P_cn {S : Nat → Int32} {st dc : Nat} (hP : sd_P S st dc) : ∀ j, j < dc → (decide (st ≤ j) = true ↔ S j = -1) := by
  obtain ⟨h1, h32, h3, h4⟩ := hP
  intro j hj
  rw [decide_eq_true_iff]
  constructor
  · intro a; exact h4 j a hj
  · intro a
    rcases Nat.lt_or_ge j st with b | b
    · obtain ⟨c, hc, e⟩ := h3 j b
      rw [e] at a
      exact absurd a (sx_nm hc)
    · exact b
theorem sd_P_c {st dc : Nat} (h1 : st ≤ dc) : sg_cn (fun j => decide (st ≤ j)) dc = dc - st := by
  obtain ⟨b, rfl⟩ := Nat.exists_eq_add_of_le h1
  rw [sg_cn_split, sg_cn_0 st (fun i hi => decide_eq_false (by omega)), sg_cn_all b (fun i _ => decide_eq_true (by omega))]
  omega
theorem sd_P_lt {S : Nat → Int32} {st dc : Nat} (hP : sd_P S st dc) {j : Nat} (hj : j < dc) : S j < 0 ↔ ¬ j < st := by
  obtain ⟨h1, h32, h3, h4⟩ := hP
  constructor
  · intro a b
    obtain ⟨c, hc, e⟩ := h3 j b
    rw [e] at a
    exact absurd a (nI_pos hc)
  · intro a
    rw [h4 j (by omega) hj]; exact sx_m0
section
variable {gdc gsg gnn gpt gkp : Int32} {bN bP bL bT bS bD bV bPT bTK bLN bKD bSP bWT bIS bMA bNN bNC bKN bSH bIH : Nat → Int32} {bSC bKS bHS : Nat → Int64}
theorem yr_many {dc : Nat} (h32 : dc ≤ 32) {x1 : Int32} (p : Nat → Bool) (hpd : ∀ j, j < dc → (p j = true ↔ bS j = x1)) {post : Int32 → Prop} (hp : post (nI (sg_cn p dc))) :
    wpY_many post (nI dc, gsg, gnn, gpt, gkp, bN, bP, bL, bT, bS, bD, bV, bPT, bTK, bLN, bKD, bSP, bWT, bIS, bMA, bSC, bNN, bNC, bKN, bKS, bSH, bIH, bHS) x1 := by
  have key : ∀ m i, i + m = dc → wY_many_4 post x1 (nI dc) gsg gnn gpt gkp bN bP bL bT bS bD bV bPT bTK bLN bKD bSP bWT bIS bMA bSC bNN bNC bKN bKS bSH bIH bHS (m + 1) (nI (sg_cn p i)) (nI i) := by
    intro m
    induction m with
    | zero =>
      intro i h
      obtain rfl : i = dc := by omega
      exact br_t (nI_le (Nat.le_refl _) (by omega)) hp
    | succ m ih =>
      intro i h
      have e : (nI i).toNatClampNeg = i := nI_clamp (by omega)
      have I := ih (i + 1) (by omega)
      refine br_f (nI_ge (by omega) (by omega)) ⟨vp_in_nI (by omega) (by omega), br_c (fun hc => ?_) (fun hc => ?_)⟩
      · rw [e] at hc
        rw [sg_cn_t ((hpd i (by omega)).mpr hc)] at I
        exact nm_r (nI_1 _) (nm_r (nI_1 _) I)
      · rw [e] at hc
        rw [sg_cn_f (fun z => hc ((hpd i (by omega)).mp z))] at I
        exact nm_r (nI_1 _) I
  exact Exists.intro (dc + 1) (key dc 0 (Nat.zero_add _))
theorem yr_on {st dc : Nat} (hP : sd_P bS st dc) {post : Int32 → Prop} (hp : post (nI st)) : wpY_onShelves post (nI dc, gsg, gnn, gpt, gkp, bN, bP, bL, bT, bS, bD, bV, bPT, bTK, bLN, bKD, bSP, bWT, bIS, bMA, bSC, bNN, bNC, bKN, bKS, bSH, bIH, bHS) := by
  refine yr_many hP.2.1 (fun j => decide (st ≤ j)) (sd_P_cn hP) ?_
  rw [sd_P_c hP.1]
  have e1 : nI dc - nI (dc - st) = nI st := by
    rw [pk_sub (by omega)]
    exact congrArg nI (by have := hP.1; omega)
  show post (nI dc - nI (dc - st))
  rw [e1]; exact hp
theorem yr_find {dc : Nat} (h32 : dc ≤ 32) {x1 r : Int32} (hF : sd_F bN dc x1 r) {post : Int32 → Prop} (hp : post r) : wpY_find post (nI dc, gsg, gnn, gpt, gkp, bN, bP, bL, bT, bS, bD, bV, bPT, bTK, bLN, bKD, bSP, bWT, bIS, bMA, bSC, bNN, bNC, bKN, bKS, bSH, bIH, bHS) x1 := by
  have key : ∀ m i, i + m = dc → (∀ j, j < i → ¬ bN j = x1) → wY_find_2 post x1 (nI dc) gsg gnn gpt gkp bN bP bL bT bS bD bV bPT bTK bLN bKD bSP bWT bIS bMA bSC bNN bNC bKN bKS bSH bIH bHS (m + 1) (nI i) := by
    intro m
    induction m with
    | zero =>
      intro i h hn
      obtain rfl : i = dc := by omega
      rcases hF with hF | ⟨d, h1, h2, h3, h4⟩
      · rw [hF.1] at hp
        exact br_t (nI_le (Nat.le_refl _) (by omega)) hp
      · exact absurd h3 (hn d h1)
    | succ m ih =>
      intro i h hn
      have e : (nI i).toNatClampNeg = i := nI_clamp (by omega)
      refine br_f (nI_ge (by omega) (by omega)) ⟨vp_in_nI (by omega) (by omega), br_c (fun hc => ?_) (fun hc => ?_)⟩
      · rw [e] at hc
        rcases hF with hF | ⟨d, h1, h2, h3, h4⟩
        · exact absurd hc (hF.2 i (by omega))
        · have : d = i := by
            rcases Nat.lt_trichotomy d i with h5 | h5 | h5
            · exact absurd h3 (hn d h5)
            · exact h5
            · exact absurd hc (h4 i h5)
          rw [h2, this] at hp
          exact hp
      · rw [e] at hc
        refine nm_r (nI_1 _) (ih (i + 1) (by omega) (fun j hj => ?_))
        rcases Nat.lt_or_ge j i with h3 | h3
        · exact hn j h3
        · obtain rfl : j = i := by omega
          exact hc
  exact Exists.intro (dc + 1) (key dc 0 (Nat.zero_add _) (fun j h => absurd h (Nat.not_lt_zero j)))
theorem yr_has {d len : Nat} (hd : d < 32) (hl : bL d = nI len) (hn : len ≤ 12) {w : Int32} {post : Int32 → Prop} (hp : post (sg_B (sd_hs bT (12 * d) w len))) : wpY_has post (gdc, gsg, gnn, gpt, gkp, bN, bP, bL, bT, bS, bD, bV, bPT, bTK, bLN, bKD, bSP, bWT, bIS, bMA, bSC, bNN, bNC, bKN, bKS, bSH, bIH, bHS) (nI d) w := by
  have ed : (nI d).toNatClampNeg = d := nI_clamp (by omega)
  have e12 : 12 * nI d + nI len = nI (12 * d + len) := sy_ix d len
  have key : ∀ m i, i + m = len → sd_hs bT (12 * d) w i = false → wY_has_5 post (nI d) w gdc gsg gnn gpt gkp bN bP bL bT bS bD bV bPT bTK bLN bKD bSP bWT bIS bMA bSC bNN bNC bKN bKS bSH bIH bHS (m + 1) (nI (12 * d + i)) := by
    intro m
    induction m with
    | zero =>
      intro i h hf
      obtain rfl : i = len := by omega
      rw [hf] at hp
      exact ⟨vp_in_nI hd (by omega), br_t (by rw [ed, hl, e12]; exact nI_le (Nat.le_refl _) (by omega)) hp⟩
    | succ m ih =>
      intro i h hf
      have e2 : (nI (12 * d + i)).toNatClampNeg = 12 * d + i := nI_clamp (by omega)
      refine ⟨vp_in_nI hd (by omega), br_f (by rw [ed, hl, e12]; exact nI_ge (by omega) (by omega)) ⟨vp_in_nI (by omega) (by omega), br_c (fun hc => ?_) (fun hc => ?_)⟩⟩
      · rw [e2] at hc
        rw [(sd_hs_iff len).mpr ⟨i, by omega, hc⟩] at hp
        exact hp
      · rw [e2] at hc
        refine nm_r (nI_1 _) (ih (i + 1) (by omega) ?_)
        show (sd_hs bT (12 * d) w i || decide (bT (12 * d + i) = w)) = false
        rw [hf, decide_eq_false hc]; rfl
  have e0 : 12 * nI d = nI (12 * d) := by
    show nI 12 * nI d = _
    rw [pk_mul]
  exact nm_r e0 (Exists.intro (len + 1) (key len 0 (Nat.zero_add _) rfl))
theorem yr_with {st dc : Nat} (hP : sd_P bS st dc) (hL : sd_L bL) {w : Nat} {post : Int32 → Prop} (hp : post (nI (sg_cn (sd_hw bT bL w) st))) : wpY_with post (nI dc, gsg, gnn, gpt, gkp, bN, bP, bL, bT, bS, bD, bV, bPT, bTK, bLN, bKD, bSP, bWT, bIS, bMA, bSC, bNN, bNC, bKN, bKS, bSH, bIH, bHS) (nI w) := by
  have h32 := hP.2.1
  have key : ∀ m i, i + m = dc → wY_with_4 post (nI w) (nI dc) gsg gnn gpt gkp bN bP bL bT bS bD bV bPT bTK bLN bKD bSP bWT bIS bMA bSC bNN bNC bKN bKS bSH bIH bHS (m + 1) (nI (sg_cn (sd_hw bT bL w) (min i st))) (nI i) := by
    intro m
    induction m with
    | zero =>
      intro i h
      obtain rfl : i = dc := by omega
      rw [Nat.min_eq_right hP.1]
      exact br_t (nI_le (Nat.le_refl _) (by omega)) hp
    | succ m ih =>
      intro i h
      have e : (nI i).toNatClampNeg = i := nI_clamp (by omega)
      have I := ih (i + 1) (by omega)
      refine br_f (nI_ge (by omega) (by omega)) ⟨vp_in_nI (by omega) (by omega), br_c (fun hc => ?_) (fun hc => ?_)⟩
      · rw [e] at hc
        have hn := (sd_P_lt hP (show i < dc by omega)).mp hc
        rw [Nat.min_eq_right (by omega)] at I
        rw [Nat.min_eq_right (by omega)]
        exact nm_r (nI_1 _) I
      · rw [e] at hc
        have hn : i < st := by
          rcases Nat.lt_or_ge i st with a | a
          · exact a
          · exact absurd ((sd_P_lt hP (show i < dc by omega)).mpr (by omega)) hc
        rw [Nat.min_eq_left (by omega)] at I
        rw [Nat.min_eq_left (by omega)]
        refine yr_has (d := i) (len := sd_n bL i) (by omega) (hL i).1 (hL i).2 ?_
        cases hh : sd_hs bT (12 * i) (nI w) (sd_n bL i) with
        | true =>
          rw [sg_cn_t (p := sd_hw bT bL w) hh] at I
          exact br_f (by decide) (nm_r (nI_1 _) (nm_r (nI_1 _) I))
        | false =>
          rw [sg_cn_f (p := sd_hw bT bL w) (by show ¬ sd_hs bT (12 * i) (nI w) (sd_n bL i) = true; rw [hh]; decide)] at I
          exact br_t rfl (nm_r (nI_1 _) I)
  have k0 := key dc 0 (Nat.zero_add _)
  rw [Nat.zero_min] at k0
  exact Exists.intro (dc + 1) k0
theorem yr_digits {post : Int32 → Prop} {v0 : Nat} (hp : post (nI (sd_dg v0))) : ∀ n v c, v < n → v < 2 ^ 31 → c + sd_dg v = sd_dg v0 → wY_rarity_20 post gdc gsg gnn gpt gkp bN bP bL bT bS bD bV bPT bTK bLN bKD bSP bWT bIS bMA bSC bNN bNC bKN bKS bSH bIH bHS n (nI v) (nI c) := by
  intro n
  induction n with
  | zero => intro v c h; exact absurd h (Nat.not_lt_zero v)
  | succ n ih =>
    intro v c h hv hc
    rcases Nat.eq_zero_or_pos v with h0 | h0
    · subst h0
      rw [sd_dg_0, Nat.add_zero] at hc
      rw [hc]
      exact br_t (nI_le (a := 0) (b := 0) (Nat.le_refl _) (by decide)) hp
    · refine br_f (nI_nle h0 hv) ⟨by decide, ?_⟩
      have e : nI v / 2 = nI (v / 2) := by
        show nI v / nI 2 = _
        rw [pk_div hv (by omega) (by omega)]
      rw [sd_dg_s h0] at hc
      exact nm_r e (nm_r (nI_1 _) (ih (v / 2) (c + 1) (by omega) (by omega) (by omega)))
theorem yr_rarity {st dc : Nat} (hP : sd_P bS st dc) (hL : sd_L bL) {w : Nat} {post : Int32 → Prop} (hp : post (nI (sd_W bT bL st w))) : wpY_rarity post (nI dc, gsg, gnn, gpt, gkp, bN, bP, bL, bT, bS, bD, bV, bPT, bTK, bLN, bKD, bSP, bWT, bIS, bMA, bSC, bNN, bNC, bKN, bKS, bSH, bIH, bHS) (nI w) := by
  have h1 := hP.1
  have h32 := hP.2.1
  unfold wpY_rarity
  refine yr_on hP ?_
  refine yr_with hP hL ?_
  have hcn := sg_cn_le (sd_hw bT bL w) st
  have ea : (8 * (nI st + 1)) / (nI (sg_cn (sd_hw bT bL w) st) + 1) = nI (8 * (st + 1) / (sg_cn (sd_hw bT bL w) st + 1)) := by
    rw [nI_1, nI_1]
    show nI 8 * nI (st + 1) / _ = _
    rw [pk_mul, pk_div (by omega) (by omega) (by omega)]
  have hb : 8 * (st + 1) / (sg_cn (sd_hw bT bL w) st + 1) ≤ 8 * (st + 1) := Nat.div_le_self _ _
  refine ⟨by rw [nI_1]; exact nI_ne0 (by omega) (by omega), nm_r ea (Exists.intro _ (yr_digits (v0 := 8 * (st + 1) / (sg_cn (sd_hw bT bL w) st + 1)) hp _ _ 0 (Nat.lt_succ_self _) (by omega) (Nat.zero_add _)))⟩
end
end
section
section
variable {gdc gsg gnn gpt gkp : Int32} {bN bP bL bT bS bD bV bPT bTK bLN bKD bSP bWT bIS bMA bNN bNC bKN bSH bIH : Nat → Int32} {bSC bKS bHS : Nat → Int64}
theorem yd_copy {D : sd_D} {f t : Nat} (hf : f < 32) (ht : t < 32) (hD : D.2.2.2.2.2 f = 0 ∨ D.2.2.2.2.2 f = 1) {post : SY → Prop}
    (hp : post (gdc, gsg, gnn, gpt, gkp, (sd_cp D f t).1, (sd_cp D f t).2.1, (sd_cp D f t).2.2.1, (sd_cp D f t).2.2.2.1, (sd_cp D f t).2.2.2.2.1, (sd_cp D f t).2.2.2.2.2, bV, bPT, bTK, bLN, bKD, bSP, bWT, bIS, bMA, bSC, bNN, bNC, bKN, bKS, bSH, bIH, bHS)) : wpY_copy post (gdc, gsg, gnn, gpt, gkp, D.1, D.2.1, D.2.2.1, D.2.2.2.1, D.2.2.2.2.1, D.2.2.2.2.2, bV, bPT, bTK, bLN, bKD, bSP, bWT, bIS, bMA, bSC, bNN, bNC, bKN, bKS, bSH, bIH, bHS) (nI f) (nI t) := by
  have ef : (nI f).toNatClampNeg = f := nI_clamp (by omega)
  have et : (nI t).toNatClampNeg = t := nI_clamp (by omega)
  have key : ∀ m i, i + m = 12 → wY_copy_62 post (nI f) (nI t) gdc gsg gnn gpt gkp (m + 1) (nI i) ((sd_cp D f t).1) ((sd_cp D f t).2.1) ((sd_cp D f t).2.2.1) (sd_cy D.2.2.2.1 (12 * t) D.2.2.2.1 (12 * f) i) ((sd_cp D f t).2.2.2.2.1) ((sd_cp D f t).2.2.2.2.2) bV bPT bTK bLN bKD bSP bWT bIS bMA bSC bNN bNC bKN bKS bSH bIH bHS := by
    intro m
    induction m with
    | zero =>
      intro i h
      obtain rfl : i = 12 := by omega
      exact br_t (nI_le (b := 12) (Nat.le_refl _) (by decide)) hp
    | succ m ih =>
      intro i h
      have e1 : (12 * nI f + nI i).toNatClampNeg = 12 * f + i := by rw [sy_ix]; exact nI_clamp (by omega)
      have e2 : (12 * nI t + nI i).toNatClampNeg = 12 * t + i := by rw [sy_ix]; exact nI_clamp (by omega)
      refine br_f (nI_ge (b := 12) (by omega) (by decide)) ⟨by rw [sy_ix]; exact vp_in_nI (by omega) (by omega), by rw [sy_ix]; exact vp_in_nI (by omega) (by omega), ?_⟩
      rw [e1, e2]
      have e3 := sd_cy_s D.2.2.2.1 (12 * t) D.2.2.2.1 (12 * f) i
      rw [← sd_cy_mv D.2.2.2.1 f t i (by omega)] at e3
      exact nm_r e3 (nm_r (nI_1 _) (ih (i + 1) (by omega)))
  have k0 := key 12 0 rfl
  rw [sd_cy_0] at k0
  have hvf : vp_in (nI f) 32 := vp_in_nI hf (by omega)
  have hvt : vp_in (nI t) 32 := vp_in_nI ht (by omega)
  refine ⟨hvf, hvt, ?_⟩
  rw [ef, et]
  exact nm_e ⟨hvf, hvt, nm_e ⟨hvf, hvt, nm_e ⟨hvf, hvt, nm_e ⟨hvf, hvt, nm_r (by rw [sx_nb hD]; rfl) (Exists.intro 13 k0)⟩⟩⟩⟩
theorem yd_remove {dc : Nat} (h32 : dc + 1 ≤ 32) {post : Int32 → SY → Prop} : ∀ m k (D : sd_D), k + m = dc → sd_ok D → post 1 (nI dc, gsg, gnn, gpt, gkp, (sd_rmv m k D).1, (sd_rmv m k D).2.1, (sd_rmv m k D).2.2.1, (sd_rmv m k D).2.2.2.1, (sd_rmv m k D).2.2.2.2.1, (sd_rmv m k D).2.2.2.2.2, bV, bPT, bTK, bLN, bKD, bSP, bWT, bIS, bMA, bSC, bNN, bNC, bKN, bKS, bSH, bIH, bHS) →
    wY_delete_52 post (m + 1) (nI k) (nI dc) gsg gnn gpt gkp D.1 D.2.1 D.2.2.1 D.2.2.2.1 D.2.2.2.2.1 D.2.2.2.2.2 bV bPT bTK bLN bKD bSP bWT bIS bMA bSC bNN bNC bKN bKS bSH bIH bHS := by
  intro m
  induction m with
  | zero =>
    intro k D h _ hp
    obtain rfl : k = dc := by omega
    exact br_t (nI_le (Nat.le_refl _) (by omega)) hp
  | succ m ih =>
    intro k D h hD hp
    refine br_f (nI_ge (by omega) (by omega)) ?_
    rw [nI_1]
    exact yd_copy (by omega) (by omega) (hD.2.2.2 _) (nm_e (ih (k + 1) _ (by omega) (sd_ok_cp hD _ _) hp))
theorem yd_join {dc f : Nat} {lev : Int32} (h32 : dc ≤ 32) (hf : f < 34) {D : sd_D} (hD : sd_ok D) {post : SY → Prop}
    (hp0 : (sd_jn (nI f) D dc).2.2 = 0 → post (nI (sd_jn (nI f) D dc).2.1, nI f, gnn, gpt, gkp, ((sd_jn (nI f) D dc).1).1, ((sd_jn (nI f) D dc).1).2.1, ((sd_jn (nI f) D dc).1).2.2.1, ((sd_jn (nI f) D dc).1).2.2.2.1, ((sd_jn (nI f) D dc).1).2.2.2.2.1, ((sd_jn (nI f) D dc).1).2.2.2.2.2, upd bV f lev, bPT, bTK, bLN, bKD, bSP, bWT, bIS, bMA, bSC, bNN, bNC, bKN, bKS, bSH, bIH, bHS))
    (hp1 : 0 < (sd_jn (nI f) D dc).2.2 → post (nI (sd_jn (nI f) D dc).2.1, nI (f + 1), gnn, gpt, gkp, ((sd_jn (nI f) D dc).1).1, ((sd_jn (nI f) D dc).1).2.1, ((sd_jn (nI f) D dc).1).2.2.1, ((sd_jn (nI f) D dc).1).2.2.2.1, ((sd_jn (nI f) D dc).1).2.2.2.2.1, ((sd_jn (nI f) D dc).1).2.2.2.2.2, upd bV f lev, bPT, bTK, bLN, bKD, bSP, bWT, bIS, bMA, bSC, bNN, bNC, bKN, bKS, bSH, bIH, bHS)) :
    wpY_join post (nI dc, gsg, gnn, gpt, gkp, D.1, D.2.1, D.2.2.1, D.2.2.2.1, D.2.2.2.2.1, D.2.2.2.2.2, bV, bPT, bTK, bLN, bKD, bSP, bWT, bIS, bMA, bSC, bNN, bNC, bKN, bKS, bSH, bIH, bHS) (nI f) lev := by
  have key : ∀ m d, d + m = dc → wY_join_8 post (nI f) lev (m + 1) (nI (sd_jn (nI f) D d).2.1) (nI (sd_jn (nI f) D d).2.2) (nI d) (nI dc) gsg gnn gpt gkp (((sd_jn (nI f) D d).1).1) (((sd_jn (nI f) D d).1).2.1) (((sd_jn (nI f) D d).1).2.2.1) (((sd_jn (nI f) D d).1).2.2.2.1) (((sd_jn (nI f) D d).1).2.2.2.2.1) (((sd_jn (nI f) D d).1).2.2.2.2.2) bV bPT bTK bLN bKD bSP bWT bIS bMA bSC bNN bNC bKN bKS bSH bIH bHS := by
    intro m
    induction m with
    | zero =>
      intro i h
      obtain rfl : i = dc := by omega
      have hle := sd_jn_le (nI f) D i
      refine br_t (nI_le (Nat.le_refl _) (by omega)) (br_c (fun hc => ?_) (fun hc => ?_))
      · have h0 : (sd_jn (nI f) D i).2.2 ≤ 0 := (nI_leI (b := 0) (by omega) (by decide)).mp hc
        exact ⟨vp_in_nI hf (by omega), nm_r (by rw [nI_clamp (by omega)]) (hp0 (by omega))⟩
      · have h0 : ¬ (sd_jn (nI f) D i).2.2 ≤ 0 := fun z => hc ((nI_leI (b := 0) (by omega) (by decide)).mpr z)
        exact nm_r (nI_1 _) ⟨vp_in_nI hf (by omega), nm_r (by rw [nI_clamp (by omega)]) (hp1 (by omega))⟩
    | succ m ih =>
      intro d h
      have e : (nI d).toNatClampNeg = d := nI_clamp (by omega)
      have I := ih (d + 1) (by omega)
      have hle := sd_jn_le (nI f) D d
      have hok := sd_ok_jn hD (nI f) d
      have ej : sd_jn (nI f) D (d + 1) = sd_js (nI f) d (sd_jn (nI f) D d) := rfl
      rw [ej] at I
      generalize sd_jn (nI f) D d = s at I hle hok
      unfold sd_js at I
      have hv : vp_in (nI d) 32 := vp_in_nI (by omega) (by omega)
      refine br_f (nI_ge (by omega) (by omega)) ⟨hv, br_c (fun hc => ?_) (fun hc => ?_)⟩
      · rw [e] at hc
        rw [if_neg (Int32.not_le.mpr hc)] at I
        exact br_t rfl (yd_copy (by omega) (by omega) (hok.2.2.2 _) (br_t rfl (nm_r (nI_1 _) (nm_r (nI_1 _) I))))
      · rw [e] at hc
        rw [if_pos (Int32.not_lt.mp hc)] at I
        refine br_f (by decide) ⟨hv, br_c (fun hz => ?_) (fun hz => ?_)⟩
        · rw [e] at hz
          rw [if_pos hz] at I
          refine yd_copy (by omega) (by omega) (hok.2.2.2 _) (br_f (by decide) ⟨vp_in_nI (by omega) (by omega), ?_⟩)
          rw [nI_clamp (by omega)]
          exact nm_e (nm_r (nI_1 _) (nm_r (nI_1 _) (nm_r (nI_1 _) I)))
        · rw [e] at hz
          rw [if_neg hz] at I
          exact nm_r (nI_1 _) I
  exact Exists.intro (dc + 1) (key dc 0 (Nat.zero_add _))
theorem ym_merge {post : Int32 → SY → Prop} : ∀ k (s : sm_S) (V : Nat → Int32), sm_I s → s.2.2.2 ≤ 2 * k + 2 → (∀ j, j < s.2.2.2 → s.2.1 j = V j) →
    (∀ V' : Nat → Int32, (∀ j, j < (sm_go k s).2.2.2 → (sm_go k s).2.1 j = V' j) → post (nI (sm_go k s).2.2.2) (nI (sm_go k s).2.2.1, nI (sm_go k s).2.2.2, gnn, gpt, gkp, ((sm_go k s).1).1, ((sm_go k s).1).2.1, ((sm_go k s).1).2.2.1, ((sm_go k s).1).2.2.2.1, ((sm_go k s).1).2.2.2.2.1, ((sm_go k s).1).2.2.2.2.2, V', bPT, bTK, bLN, bKD, bSP, bWT, bIS, bMA, bSC, bNN, bNC, bKN, bKS, bSH, bIH, bHS)) →
    wY_flush_71 post (k + 1) (nI s.2.2.1) (nI s.2.2.2) gnn gpt gkp ((s.1).1) ((s.1).2.1) ((s.1).2.2.1) ((s.1).2.2.2.1) ((s.1).2.2.2.2.1) ((s.1).2.2.2.2.2) V bPT bTK bLN bKD bSP bWT bIS bMA bSC bNN bNC bKN bKS bSH bIH bHS := by
  intro k
  induction k with
  | zero =>
    intro s V hI hk hV hp
    exact br_t (nI_le (b := 2) (by omega) (by decide)) (hp V hV)
  | succ k ih =>
    intro s V hI hk hV hp
    have hsg := sd_I_sg hI.2
    have h32 := hI.2.2.1
    rcases Nat.lt_or_ge 2 s.2.2.2 with h2 | h2
    · have e1 : nI s.2.2.2 - 1 = nI (s.2.2.2 - 1) := pk_sub (b := 1) (by omega)
      have e2 : nI s.2.2.2 - 2 = nI (s.2.2.2 - 2) := pk_sub (b := 2) (by omega)
      have e3 : nI s.2.2.2 - 3 = nI (s.2.2.2 - 3) := pk_sub (b := 3) (by omega)
      have v1 : vp_in (nI (s.2.2.2 - 1)) 34 := vp_in_nI (by omega) (by omega)
      have v2 : vp_in (nI (s.2.2.2 - 2)) 34 := vp_in_nI (by omega) (by omega)
      have v3 : vp_in (nI (s.2.2.2 - 3)) 34 := vp_in_nI (by omega) (by omega)
      have V1 := hV (s.2.2.2 - 1) (by omega)
      have V2 := hV (s.2.2.2 - 2) (by omega)
      have V3 := hV (s.2.2.2 - 3) (by omega)
      have stop : ¬ sd_al s.2.1 s.2.2.2 → post (nI s.2.2.2) (nI s.2.2.1, nI s.2.2.2, gnn, gpt, gkp, (s.1).1, (s.1).2.1, (s.1).2.2.1, (s.1).2.2.2.1, (s.1).2.2.2.2.1, (s.1).2.2.2.2.2, V, bPT, bTK, bLN, bKD, bSP, bWT, bIS, bMA, bSC, bNN, bNC, bKN, bKS, bSH, bIH, bHS) := by
        intro hn
        rw [sm_go_n hn] at hp
        exact hp V hV
      refine br_f (nI_nlt (a := s.2.2.2) (b := 3) (by omega) (by omega) |> fun _ => nI_ge (b := s.2.2.2) (a := 2) h2 (by omega)) ?_
      rw [e1, e2, e3, nI_clamp (n := s.2.2.2 - 1) (by omega), nI_clamp (n := s.2.2.2 - 2) (by omega), nI_clamp (n := s.2.2.2 - 3) (by omega), ← V1, ← V2, ← V3]
      refine ⟨v1, br_c (fun hc => stop ?_) (fun hc => ⟨v2, v1, br_c (fun hc2 => ⟨v3, v1, br_c (fun hc3 => ⟨v1, ?_⟩) (fun hc3 => stop ?_)⟩) (fun hc2 => stop ?_)⟩)⟩
      · rintro ⟨a, b, c, d⟩
        rw [d] at hc
        exact absurd b (Int32.not_lt.mpr hc)
      · have ha : sd_al s.2.1 s.2.2.2 := ⟨h2, by rw [hc3]; exact Int32.not_le.mp hc, by rw [hc2, hc3], hc3.symm⟩
        rw [sm_go_y ha] at hp
        obtain ⟨hI', hle⟩ := sm_st_I hI ha
        refine nm_e (yd_join h32 (by omega) hI.1 (fun h0 => ?_) (fun h0 => ?_))
        · have I := ih (sm_st s) (upd V (s.2.2.2 - 3) (s.2.1 (s.2.2.2 - 1) + 1)) hI' (by omega) (by
            unfold sm_st
            simp only
            rw [if_neg (by omega), if_neg (by omega)]
            intro j hj
            rw [pk_un (by omega)]; exact hV j (by omega)) hp
          unfold sm_st at I
          rw [if_neg (by omega), if_neg (by omega)] at I
          exact I
        · have I := ih (sm_st s) (upd V (s.2.2.2 - 3) (s.2.1 (s.2.2.2 - 1) + 1)) hI' (by omega) (by
            unfold sm_st
            simp only
            rw [if_pos h0, if_pos h0]
            intro j hj
            by_cases e : j = s.2.2.2 - 3
            · subst e
              rw [pk_us, pk_us, hc3]
            · rw [pk_un e, pk_un e]; exact hV j (by omega)) hp
          unfold sm_st at I
          rw [if_pos h0, if_pos h0] at I
          exact I
      · rintro ⟨a, b, c, d⟩
        exact hc3 d.symm
      · rintro ⟨a, b, c, d⟩
        exact hc2 (by rw [c, d])
    · rw [sm_go_n (fun z => by have := z.1; omega)] at hp
      exact br_t (nI_le (b := 2) (by omega) (by decide)) (hp V hV)
end
end
section
theorem sy_uu (a : Nat → Int32) (i : Nat) (x y : Int32) : upd (upd a i x) i y = upd a i y := by
  funext j
  unfold upd
  by_cases e : j = i
  · rw [if_pos e, if_pos e]
  · rw [if_neg e, if_neg e, if_neg e]
theorem sy_u0 (a : Nat → Int32) (i : Nat) : upd a i (a i) = a := by
  funext j
  unfold upd
  by_cases e : j = i
  · rw [if_pos e, e]
  · rw [if_neg e]
theorem sy_12 (p : Nat) : 12 * nI p = nI (12 * p) := by
  show nI 12 * nI p = _
  rw [pk_mul]
section
variable {gdc gsg gnn gpt gkp : Int32} {bN bP bL bT bS bD bV bPT bTK bLN bKD bSP bWT bIS bMA bNN bNC bKN bSH bIH : Nat → Int32} {bSC bKS bHS : Nat → Int64}
theorem ys_begin {p : Nat} (hp20 : p < 20) (b : Bool) {post : SY → Prop} (hp : post (gdc, gsg, gnn, gpt, gkp, bN, bP, bL, bT, bS, bD, bV, bPT, bTK, bLN, bKD, sd_cy bSP (12 * p) (fun _ => 0) 0 12, bWT, upd bIS p (sg_B b), bMA, bSC, bNN, bNC, bKN, bKS, bSH, bIH, bHS)) : wpY_begin post (gdc, gsg, gnn, gpt, gkp, bN, bP, bL, bT, bS, bD, bV, bPT, bTK, bLN, bKD, bSP, bWT, bIS, bMA, bSC, bNN, bNC, bKN, bKS, bSH, bIH, bHS) (nI p) (sg_B b) := by
  have key : ∀ m i, i + m = 12 → wY_begin_9 post (nI p) gdc gsg gnn gpt gkp (m + 1) (nI i) bN bP bL bT bS bD bV bPT bTK bLN bKD (sd_cy bSP (12 * p) (fun _ => 0) 0 i) bWT (upd bIS p (sg_B b)) bMA bSC bNN bNC bKN bKS bSH bIH bHS := by
    intro m
    induction m with
    | zero =>
      intro i h
      obtain rfl : i = 12 := by omega
      exact br_t (nI_le (b := 12) (Nat.le_refl _) (by decide)) hp
    | succ m ih =>
      intro i h
      refine br_f (nI_ge (b := 12) (by omega) (by decide)) ⟨by rw [sy_ix]; exact vp_in_nI (by omega) (by omega), ?_⟩
      rw [sy_ix, nI_clamp (by omega)]
      exact nm_r (sd_cy_s bSP (12 * p) (fun _ => 0) 0 i) (nm_r (nI_1 _) (ih (i + 1) (by omega)))
  have k0 := key 12 0 rfl
  rw [sd_cy_0] at k0
  exact ⟨vp_in_nI hp20 (by omega), nm_r (by rw [nI_clamp (by omega), sx_nb (sg_B_01 b)]) (Exists.intro 13 k0)⟩
theorem ys_set {p d st dc : Nat} {v : sv_T} (hp20 : p < 20) (hd : d < 32) (hP : sd_P bS st dc) (hL : sd_L bL) (hE : sy_E bIS bMA bSP bWT bSC p v) (hw : v.1 = true → v.2.2.1 ≤ 405) {post : SY → Prop}
    (hp : ∀ (IS MA : Nat → Int32) (SC : Nat → Int64), sy_E IS MA bSP bWT SC p (sv_se (sv_own (sd_n bL d) st (sg_sm (sd_n bL) st)) v) → (∀ j, j ≠ p → IS j = bIS j ∧ MA j = bMA j ∧ SC j = bSC j) → post (nI dc, gsg, gnn, gpt, gkp, bN, bP, bL, bT, bS, bD, bV, bPT, bTK, bLN, bKD, bSP, bWT, IS, MA, SC, bNN, bNC, bKN, bKS, bSH, bIH, bHS)) :
    wpY_settled post (nI dc, gsg, gnn, gpt, gkp, bN, bP, bL, bT, bS, bD, bV, bPT, bTK, bLN, bKD, bSP, bWT, bIS, bMA, bSC, bNN, bNC, bKN, bKS, bSH, bIH, bHS) (nI p) (nI d) := by
  have ep : (nI p).toNatClampNeg = p := nI_clamp (by omega)
  have ed : (nI d).toNatClampNeg = d := nI_clamp (by omega)
  have hv : vp_in (nI p) 20 := vp_in_nI hp20 (by omega)
  obtain ⟨h1, h2, h3⟩ := hE
  refine ⟨hv, ?_⟩
  rw [ep, h1]
  cases hv1 : v.1 with
  | false =>
    refine br_t rfl ?_
    have := hp bIS bMA bSC (by unfold sv_se; rw [hv1, if_neg (by decide)]; exact ⟨h1, h2, h3⟩) (fun j _ => ⟨rfl, rfl, rfl⟩)
    exact this
  | true =>
    refine br_f (by decide) ?_
    obtain ⟨hW, hs⟩ := h2 hv1
    have hw' := hw hv1
    have hst := hP.1
    have h32 := hP.2.1
    have hct := sv_ct_le v.2.1
    have htot : sg_sm (sd_n bL) st ≤ 384 := by
      have := sg_sm_le (f := sd_n bL) 12 st (fun i _ => (hL i).2)
      omega
    generalize htt : sg_sm (sd_n bL) st = tot at htot hp
    generalize hown : sv_own (sd_n bL d) st tot = own at hp
    have ese : sv_se own v = (false, fun _ => 0, 0, decide (0 < sv_ct v.2.1), sv_sc own v.2.2.1 (sv_ct v.2.1)) := by
      unfold sv_se sv_mt sv_ss
      rw [if_pos hv1, if_pos hv1, if_pos hv1]
    rw [ese] at hp
    have fin : ∀ (SC : Nat → Int64), SC p = lN (sv_sc own v.2.2.1 (sv_ct v.2.1)) → (∀ j, j ≠ p → SC j = bSC j) → post (nI dc, gsg, gnn, gpt, gkp, bN, bP, bL, bT, bS, bD, bV, bPT, bTK, bLN, bKD, bSP, bWT, upd bIS p 0, upd bMA p (sg_B (decide (0 < sv_ct v.2.1))), SC, bNN, bNC, bKN, bKS, bSH, bIH, bHS) := by
      intro SC hS1 hS2
      exact hp _ _ SC ⟨pk_us, fun z => absurd (show false = true from z) (by decide), fun _ => ⟨pk_us, hS1⟩⟩ (fun j hj => ⟨pk_un hj, pk_un hj, hS2 j hj⟩)
    have h2d := sg_sm_2d (fun a b => sv_bn (v.2.1 a) b) 12
    have h2e : sg_sm (fun i => sg_sm (fun b => sv_bn (v.2.1 i) b) 12) 12 = sv_ct v.2.1 := rfl
    rw [h2e] at h2d
    generalize sv_ct v.2.1 = n at hct fin h2d
    have hlen := (hL d).2
    have hob : own ≤ 34560 := by
      rw [← hown]
      unfold sv_own
      split
      · omega
      · exact Nat.le_trans (Nat.div_le_self _ _) (Nat.mul_le_mul (Nat.mul_le_mul (Nat.le_refl 90) hlen) (show st ≤ 32 by omega))
    have hm2 : v.2.2.1 * 220 * n ≤ 405 * 220 * 144 := Nat.mul_le_mul (Nat.mul_le_mul hw' (Nat.le_refl _)) hct
    have l146 : wY_settled_146 post (nI p) (nI n) (nI own) (nI dc) gsg gnn gpt gkp bN bP bL bT bS bD bV bPT bTK bLN bKD bSP bWT (upd bIS p 0) (upd bMA p (sg_B (decide (0 < n)))) bSC bNN bNC bKN bKS bSH bIH bHS := by
      refine br_c (fun h0 => ?_) (fun h0 => ?_)
      · have hn0 : n = 0 := (nI_eq (b := 0) (by omega) (by decide)).mp h0
        refine ⟨hv, ?_⟩
        rw [ep]
        refine nm_e (fin _ ?_ (fun j hj => pk_uLn hj))
        rw [pk_uLs]
        unfold sv_sc
        rw [if_pos hn0]; rfl
      · have hn0 : n ≠ 0 := fun z => h0 (by rw [z]; rfl)
        have el : ((100 * (nI n).toInt64) + 30) + (nI own).toInt64 = lN (100 * n + 30 + own) := by
          rw [nI_l (by omega), nI_l (by omega)]
          show lN 100 * lN n + lN 30 + lN own = _
          rw [lN_mul, lN_add, lN_add]
        have en : (((bWT p).toInt64 * 220) * (nI n).toInt64) = lN (v.2.2.1 * 220 * n) := by
          rw [hW, nI_l (by omega), nI_l (by omega)]
          show lN v.2.2.1 * lN 220 * lN n = _
          rw [lN_mul, lN_mul]
        refine ⟨hv, ?_⟩
        rw [ep, el, en, pk_lDiv (by omega) (by omega) (by omega)]
        refine ⟨fun z => by have := (pk_lEQ (b := 0) (by omega) (by decide)).mp z; omega, hv, nm_e (fin _ ?_ (fun j hj => pk_uLn hj))⟩
        rw [pk_uLs]
        unfold sv_sc
        rw [if_neg hn0]
    have l83 : ∀ m i, i + m = dc → wY_settled_83 post (nI p) (nI d) (nI n) (nI dc) gsg gnn gpt gkp bN bP bL bT bS bD bV bPT bTK bLN bKD bSP bWT (upd bIS p 0) (upd bMA p (sg_B (decide (0 < n)))) bSC bNN bNC bKN bKS bSH bIH bHS (m + 1) (nI (sg_sm (sd_n bL) (min i st))) (nI i) := by
      intro m
      induction m with
      | zero =>
        intro i h
        obtain rfl : i = dc := by omega
        rw [Nat.min_eq_right hst, htt]
        refine br_t (nI_le (Nat.le_refl _) (by omega)) (br_c (fun h0 => ?_) (fun h0 => ?_))
        · have ht0 : tot = 0 := (nI_eq (b := 0) (by omega) (by decide)).mp h0
          have ho : own = 0 := by rw [← hown]; unfold sv_own; rw [if_pos ht0]
          rw [ho] at l146
          exact l146
        · have ht0 : tot ≠ 0 := fun z => h0 (by rw [z]; rfl)
          refine ⟨vp_in_nI hd (by omega), yr_on hP ⟨h0, ?_⟩⟩
          have hm1 : 90 * sd_n bL d * st ≤ 90 * 12 * 32 := Nat.mul_le_mul (Nat.mul_le_mul (Nat.le_refl 90) hlen) (show st ≤ 32 by omega)
          have ex : ((90 * (bL d)) * nI st) / nI tot = nI own := by
            rw [(hL d).1]
            show nI 90 * nI (sd_n bL d) * nI st / nI tot = _
            rw [pk_mul, pk_mul, pk_div (by omega) (by omega) (by omega), ← hown]
            unfold sv_own
            rw [if_neg ht0]
          rw [ed, ex]
          exact l146
      | succ m ih =>
        intro i h
        have e : (nI i).toNatClampNeg = i := nI_clamp (by omega)
        have I := ih (i + 1) (by omega)
        refine br_f (nI_ge (by omega) (by omega)) ⟨vp_in_nI (by omega) (by omega), br_c (fun hc => ?_) (fun hc => ?_)⟩
        · rw [e] at hc
          have hn := (sd_P_lt hP (show i < dc by omega)).mp hc
          rw [Nat.min_eq_right (by omega)] at I
          rw [Nat.min_eq_right (by omega)]
          exact nm_r (nI_1 _) I
        · rw [e] at hc
          have hn : i < st := by
            rcases Nat.lt_or_ge i st with a | a
            · exact a
            · exact absurd ((sd_P_lt hP (show i < dc by omega)).mpr (by omega)) hc
          rw [Nat.min_eq_left (by omega)] at I
          rw [Nat.min_eq_left (by omega)]
          refine ⟨vp_in_nI (by omega) (by omega), ?_⟩
          rw [e]
          exact nm_r (by rw [(hL i).1, nI_add]; rfl) (nm_r (nI_1 _) I)
    have k83 := l83 dc 0 (Nat.zero_add _)
    rw [Nat.zero_min] at k83
    have l15 : ∀ m i, i + m = 144 → wY_settled_15 post (nI p) (nI d) (nI dc) gsg gnn gpt gkp bN bP bL bT bS bD bV bPT bTK bLN bKD bSP bWT bIS bMA bSC bNN bNC bKN bKS bSH bIH bHS (m + 1) (nI (sg_sm (fun i => sv_bn (v.2.1 (i / 12)) (i % 12)) i)) (nI i) := by
      intro m
      induction m with
      | zero =>
        intro i h
        obtain rfl : i = 144 := by omega
        have e144 : sg_sm (fun i => sv_bn (v.2.1 (i / 12)) (i % 12)) 144 = n := h2d
        rw [e144]
        refine br_t (nI_le (b := 144) (Nat.le_refl _) (by decide)) ⟨hv, ?_⟩
        rw [ep]
        refine nm_r (by rw [sx_nb (Or.inl rfl)]) (br_c (fun hc => ⟨hv, ?_⟩) (fun hc => ⟨hv, ?_⟩))
        · have hn0 : n ≤ 0 := (nI_leI (b := 0) (by omega) (by decide)).mp hc
          rw [decide_eq_false (by omega)] at k83
          exact nm_r (by rw [sx_nb (Or.inl rfl)]; rfl) (Exists.intro _ k83)
        · have hn0 : ¬ n ≤ 0 := fun z => hc ((nI_leI (b := 0) (by omega) (by decide)).mpr z)
          rw [decide_eq_true (by omega)] at k83
          exact nm_r (by rw [sx_nb (Or.inr rfl)]; rfl) (Exists.intro _ k83)
      | succ m ih =>
        intro i h
        have e1 : nI i / 12 = nI (i / 12) := by
          show nI i / nI 12 = _
          rw [pk_div (by omega) (by omega) (by omega)]
        have e2 : nI i - nI i / 12 * 12 = nI (i % 12) := by
          show nI i - nI i / nI 12 * nI 12 = _
          rw [pk_rem (by omega) (by omega) (by omega)]
        refine br_f (nI_ge (b := 144) (by omega) (by decide)) ⟨by decide, ?_⟩
        rw [e2, e1, sy_ix, nI_clamp (by omega), hs (i / 12) (by omega), sv_bit _ (show i % 12 < 32 by omega), nI_add]
        exact ⟨vp_in_nI (by omega) (by omega), by decide, nm_e (nm_r (nI_1 _) (ih (i + 1) (by omega)))⟩
    exact Exists.intro 145 (l15 144 0 rfl)
theorem ys_connect {t p s1 s2 : Nat} {x y : Bool} (hp20 : p + 1 < 20) (ht : t = 8 ∨ t = 9 ∨ t = 10) (hx : bMA (p + 1) = sg_B x) (hy : bMA p = sg_B y) (h1 : bSC (p + 1) = lN s1) (h2 : bSC p = lN s2) {post : SY → Prop}
    (hp : post (gdc, gsg, gnn, gpt, gkp, bN, bP, bL, bT, bS, bD, bV, bPT, bTK, bLN, bKD, bSP, bWT, bIS, upd bMA p (sg_B (sv_cm t x y)), vp_updL bSC p (lN (if t = 10 then s1 else s1 + s2)), bNN, bNC, bKN, bKS, bSH, bIH, bHS)) : wpY_connect post (gdc, gsg, gnn, gpt, gkp, bN, bP, bL, bT, bS, bD, bV, bPT, bTK, bLN, bKD, bSP, bWT, bIS, bMA, bSC, bNN, bNC, bKN, bKS, bSH, bIH, bHS) (nI t) (nI (p + 1)) := by
  have e1 : (nI (p + 1)).toNatClampNeg = p + 1 := nI_clamp (by omega)
  have e0 : (nI p).toNatClampNeg = p := nI_clamp (by omega)
  have hv1 : vp_in (nI (p + 1)) 20 := vp_in_nI hp20 (by omega)
  have hv0 : vp_in (nI p) 20 := vp_in_nI (by omega) (by omega)
  have f84 : ∀ z : Bool, sv_cm t x y = z → wY_connect_84 post (nI t) (nI (p + 1)) (sg_B z) (nI p) gdc gsg gnn gpt gkp bN bP bL bT bS bD bV bPT bTK bLN bKD bSP bWT bIS bMA bSC bNN bNC bKN bKS bSH bIH bHS := by
    intro z hz
    rw [hz] at hp
    refine ⟨hv0, ?_⟩
    rw [e0]
    refine nm_r (by rw [sx_nb (sg_B_01 z)]) ?_
    rw [nI_pred, e1, e0]
    by_cases h10 : t = 10
    · rw [if_pos h10] at hp
      exact br_t (by rw [h10]; rfl) ⟨hv1, hv0, nm_r (by rw [h1]) hp⟩
    · rw [if_neg h10] at hp
      exact br_f (fun zz => h10 ((nI_eq (b := 10) (by omega) (by decide)).mp zz)) ⟨hv1, hv0, hv0, nm_r (by rw [h1, h2, lN_add]) hp⟩
  refine ⟨hv1, ?_⟩
  rw [nI_pred, e1, e0]
  refine nm_r hx ⟨hv0, nm_r hy ?_⟩
  rcases ht with rfl | rfl | rfl
  · refine br_t rfl ?_
    cases x
    · exact br_t rfl (f84 false rfl)
    · cases y
      · exact br_f (by decide) (br_t rfl (f84 false rfl))
      · exact br_f (by decide) (br_f (by decide) (f84 true rfl))
  · refine br_f (by decide) (br_t rfl ?_)
    cases x
    · cases y
      · exact br_t rfl (br_t rfl (f84 false rfl))
      · exact br_t rfl (br_f (by decide) (f84 true rfl))
    · exact br_f (by decide) (f84 true (by cases y <;> rfl))
  · refine br_f (by decide) (br_f (by decide) ?_)
    cases x
    · exact br_t rfl (f84 false (by cases y <;> rfl))
    · cases y
      · exact br_f (by decide) (br_t rfl (f84 true rfl))
      · exact br_f (by decide) (br_f (by decide) (f84 false rfl))
theorem ys_chain {p far : Nat} (hp20 : p + 1 < 20) (hfar : far = 1 ∨ far = 3) {sa sb : Nat → Int32} {w1 w2 : Nat} (hsa : ∀ i, i < 12 → bSP (12 * (p + 1) + i) = sa i) (hsb : ∀ i, i < 12 → bSP (12 * p + i) = sb i)
    (h1 : bWT (p + 1) = nI w1) (h2 : bWT p = nI w2) {post : SY → Prop}
    (hp : ∀ KD SP : Nat → Int32, (∀ i, i < 12 → SP (12 * p + i) = sv_ch far (sa i) sb 12) → (∀ j, j < 12 * p → SP j = bSP j) → post (gdc, gsg, gnn, gpt, gkp, bN, bP, bL, bT, bS, bD, bV, bPT, bTK, bLN, KD, SP, upd bWT p (nI (w2 + w1)), bIS, bMA, bSC, bNN, bNC, bKN, bKS, bSH, bIH, bHS)) : wpY_chain post (gdc, gsg, gnn, gpt, gkp, bN, bP, bL, bT, bS, bD, bV, bPT, bTK, bLN, bKD, bSP, bWT, bIS, bMA, bSC, bNN, bNC, bKN, bKS, bSH, bIH, bHS) (nI (p + 1)) (nI far) := by
  have e1 : (nI (p + 1)).toNatClampNeg = p + 1 := nI_clamp (by omega)
  have e0 : (nI p).toNatClampNeg = p := nI_clamp (by omega)
  have hv1 : vp_in (nI (p + 1)) 20 := vp_in_nI hp20 (by omega)
  have hv0 : vp_in (nI p) 20 := vp_in_nI (by omega) (by omega)
  have l126 : ∀ K : Nat → Int32, (∀ i, i < 12 → K i = sv_ch far (sa i) sb 12) → ∀ m i, i + m = 12 → wY_chain_126 post (nI (p + 1)) gdc gsg gnn gpt gkp (m + 1) (nI i) bN bP bL bT bS bD bV bPT bTK bLN K (sd_cy bSP (12 * p) K 0 i) bWT bIS bMA bSC bNN bNC bKN bKS bSH bIH bHS := by
    intro K hK m
    induction m with
    | zero =>
      intro i h
      obtain rfl : i = 12 := by omega
      refine br_t (nI_le (b := 12) (Nat.le_refl _) (by decide)) ?_
      rw [nI_pred, e1, e0, h1, h2, nI_add]
      exact ⟨hv0, hv1, hv0, nm_e (hp K _ (fun i hi => by rw [sd_cy_in hi, Nat.zero_add]; exact hK i hi) (fun j hj => sd_cy_out (by omega)))⟩
    | succ m ih =>
      intro i h
      have I := ih (i + 1) (by omega)
      have e3 := sd_cy_s bSP (12 * p) K 0 i
      rw [Nat.zero_add] at e3
      refine br_f (nI_ge (b := 12) (by omega) (by decide)) ?_
      rw [nI_pred, sy_ix, nI_clamp (n := 12 * p + i) (by omega), nI_clamp (n := i) (by omega)]
      exact ⟨vp_in_nI (by omega) (by omega), vp_in_nI (by omega) (by omega), nm_r e3 (nm_r (nI_1 _) I)⟩
  have l67 : ∀ (J23 J32 : Int32 → (Nat → Int32) → (Nat → Int32) → (Nat → Int32) → (Nat → Int32) → (Nat → Int32) → (Nat → Int32) → (Nat → Int32) → (Nat → Int32) → (Nat → Int32) → (Nat → Int32) → (Nat → Int32) → (Nat → Int32) → (Nat → Int32) → (Nat → Int32) → (Nat → Int32) → (Nat → Int64) → (Nat → Int32) → (Nat → Int32) → (Nat → Int32) → (Nat → Int64) → (Nat → Int32) → (Nat → Int32) → (Nat → Int64) → Prop) (C : Nat → Int32) (i j : Nat) (acc : Int32), i < 12 → j < 12 →
      J32 (nI (j + 1)) bN bP bL bT bS bD bV bPT bTK bLN (upd C i (sv_or sb j acc (min far (11 - j)))) bSP bWT bIS bMA bSC bNN bNC bKN bKS bSH bIH bHS → ∀ m k, k + m = min far (11 - j) →
      wY_chain_67 post J23 J32 (nI (p + 1)) (nI far) (nI i) (nI j) gdc gsg gnn gpt gkp (m + 1) (nI (j + 1 + k)) bN bP bL bT bS bD bV bPT bTK bLN (upd C i (sv_or sb j acc k)) bSP bWT bIS bMA bSC bNN bNC bKN bKS bSH bIH bHS := by
    intro J23 J32 C i j acc hi hj hJ m
    induction m with
    | zero =>
      intro k hk
      have hk' : k = min far (11 - j) := by omega
      subst hk'
      show (nI j + nI far < _ → _) ∧ (¬ nI j + nI far < _ → _)
      rw [nI_add]
      rcases Nat.lt_or_ge (j + far) 12 with h | h
      · exact br_t (nI_lt (by omega) (by omega)) (nm_r (nI_1 _) hJ)
      · refine br_c (fun _ => nm_r (nI_1 _) hJ) (fun _ => br_t (nI_le (b := j + 1 + min far (11 - j)) (a := 12) (by omega) (by omega)) (nm_r (nI_1 _) hJ))
    | succ m ih =>
      intro k hk
      have I := ih (k + 1) (by omega)
      show (nI j + nI far < _ → _) ∧ (¬ nI j + nI far < _ → _)
      rw [nI_add]
      refine br_f (nI_nlt (by omega) (by omega)) (br_f (nI_ge (b := 12) (by omega) (by decide)) ?_)
      rw [nI_pred, sy_ix, nI_clamp (n := i) (by omega), nI_clamp (n := 12 * p + (j + 1 + k)) (by omega), pk_us, sy_uu, hsb _ (by omega)]
      exact ⟨vp_in_nI (by omega) (by omega), vp_in_nI (by omega) (by omega), vp_in_nI (by omega) (by omega), nm_e (nm_r (nI_1 _) I)⟩
  have l32 : ∀ (J23 : Int32 → (Nat → Int32) → (Nat → Int32) → (Nat → Int32) → (Nat → Int32) → (Nat → Int32) → (Nat → Int32) → (Nat → Int32) → (Nat → Int32) → (Nat → Int32) → (Nat → Int32) → (Nat → Int32) → (Nat → Int32) → (Nat → Int32) → (Nat → Int32) → (Nat → Int32) → (Nat → Int64) → (Nat → Int32) → (Nat → Int32) → (Nat → Int32) → (Nat → Int64) → (Nat → Int32) → (Nat → Int32) → (Nat → Int64) → Prop) (C : Nat → Int32) (i : Nat), i < 12 →
      J23 (nI (i + 1)) bN bP bL bT bS bD bV bPT bTK bLN (upd C i (sv_ch far (sa i) sb 12)) bSP bWT bIS bMA bSC bNN bNC bKN bKS bSH bIH bHS → ∀ m j, j + m = 12 →
      wY_chain_32 post J23 (nI (p + 1)) (nI far) (nI i) gdc gsg gnn gpt gkp (m + 1) (nI j) bN bP bL bT bS bD bV bPT bTK bLN (upd C i (sv_ch far (sa i) sb j)) bSP bWT bIS bMA bSC bNN bNC bKN bKS bSH bIH bHS := by
    intro J23 C i hi hJ m
    induction m with
    | zero =>
      intro j h
      obtain rfl : j = 12 := by omega
      exact br_t (nI_le (b := 12) (Nat.le_refl _) (by decide)) (nm_r (nI_1 _) hJ)
    | succ m ih =>
      intro j h
      have I := ih (j + 1) (by omega)
      refine br_f (nI_ge (b := 12) (by omega) (by decide)) ?_
      rw [sy_ix, nI_clamp (n := 12 * (p + 1) + i) (by omega), hsa i hi, sv_bit _ (show j < 32 by omega)]
      refine ⟨vp_in_nI (by omega) (by omega), ?_⟩
      have es : sv_ch far (sa i) sb (j + 1) = if bt (sa i) j = true then sv_or sb j (sv_ch far (sa i) sb j) (min far (11 - j)) else sv_ch far (sa i) sb j := rfl
      unfold sv_bn
      by_cases hb' : bt (sa i) j = true
      · rw [if_pos hb'] at es ⊢
        rw [es] at I
        refine br_f (by decide) (nm_r (nI_1 _) (Exists.intro (min far (11 - j) + 1) ?_))
        exact l67 J23 _ C i j _ hi (by omega) I (min far (11 - j)) 0 (Nat.zero_add _)
      · rw [if_neg hb'] at es ⊢
        rw [es] at I
        exact br_t rfl (nm_r (nI_1 _) I)
  have l23 : ∀ m i, i + m = 12 → wY_chain_23 post (nI (p + 1)) (nI far) gdc gsg gnn gpt gkp (m + 1) (nI i) bN bP bL bT bS bD bV bPT bTK bLN (sd_cy (sd_cy bKD 0 (fun _ => 0) 0 12) 0 (fun i => sv_ch far (sa i) sb 12) 0 i) bSP bWT bIS bMA bSC bNN bNC bKN bKS bSH bIH bHS := by
    intro m
    induction m with
    | zero =>
      intro i h
      obtain rfl : i = 12 := by omega
      refine br_t (nI_le (b := 12) (Nat.le_refl _) (by decide)) (Exists.intro 13 ?_)
      have L := l126 (sd_cy (sd_cy bKD 0 (fun _ => 0) 0 12) 0 (fun i => sv_ch far (sa i) sb 12) 0 12) (fun i hi => by
        have := sd_cy_in (a := sd_cy bKD 0 (fun _ => 0) 0 12) (b := 0) (s := fun i => sv_ch far (sa i) sb 12) (c := 0) hi
        rw [Nat.zero_add] at this
        exact this) 12 0 rfl
      rw [sd_cy_0] at L
      exact L
    | succ m ih =>
      intro i h
      have I := ih (i + 1) (by omega)
      have e3 := sd_cy_s (sd_cy bKD 0 (fun _ => 0) 0 12) 0 (fun i => sv_ch far (sa i) sb 12) 0 i
      rw [Nat.zero_add] at e3
      rw [← e3] at I
      refine br_f (nI_ge (b := 12) (by omega) (by decide)) (Exists.intro 13 ?_)
      have L := l32 _ _ i (by omega) I 12 0 rfl
      have ez : sd_cy (sd_cy bKD 0 (fun _ => 0) 0 12) 0 (fun i => sv_ch far (sa i) sb 12) 0 i i = 0 := by
        rw [sd_cy_out (by omega)]
        have := sd_cy_in (a := bKD) (b := 0) (s := fun _ => (0 : Int32)) (c := 0) (m := 12) (i := i) (by omega)
        rw [Nat.zero_add] at this
        exact this
      have eu := sy_u0 (sd_cy (sd_cy bKD 0 (fun _ => 0) 0 12) 0 (fun i => sv_ch far (sa i) sb 12) 0 i) i
      rw [ez] at eu
      have e4 : sv_ch far (sa i) sb 0 = 0 := rfl
      rw [e4, eu] at L
      exact L
  have l2 : ∀ m i, i + m = 12 → wY_chain_2 post (nI (p + 1)) (nI far) gdc gsg gnn gpt gkp (m + 1) (nI i) bN bP bL bT bS bD bV bPT bTK bLN (sd_cy bKD 0 (fun _ => 0) 0 i) bSP bWT bIS bMA bSC bNN bNC bKN bKS bSH bIH bHS := by
    intro m
    induction m with
    | zero =>
      intro i h
      obtain rfl : i = 12 := by omega
      have L := l23 12 0 rfl
      rw [sd_cy_0 (sd_cy bKD 0 (fun _ => 0) 0 12)] at L
      exact br_t (nI_le (b := 12) (Nat.le_refl _) (by decide)) (Exists.intro 13 L)
    | succ m ih =>
      intro i h
      have e3 := sd_cy_s bKD 0 (fun _ => 0) 0 i
      rw [Nat.zero_add] at e3
      refine br_f (nI_ge (b := 12) (by omega) (by decide)) ⟨vp_in_nI (by omega) (by omega), ?_⟩
      rw [nI_clamp (by omega)]
      exact nm_r e3 (nm_r (nI_1 _) (ih (i + 1) (by omega)))
  have k0 := l2 12 0 rfl
  rw [sd_cy_0] at k0
  exact Exists.intro 13 k0
end
end
section
theorem sy_E_fr {IS MA SP WT IS' MA' SP' WT' : Nat → Int32} {SC SC' : Nat → Int64} {p : Nat} {v : sv_T} (h1 : IS' p = IS p) (h2 : MA' p = MA p) (h3 : SC' p = SC p) (h4 : WT' p = WT p) (h5 : ∀ i, i < 12 → SP' (12 * p + i) = SP (12 * p + i))
    (h : sy_E IS MA SP WT SC p v) : sy_E IS' MA' SP' WT' SC' p v :=
  ⟨by rw [h1]; exact h.1, fun z => ⟨by rw [h4]; exact (h.2.1 z).1, fun i hi => by rw [h5 i hi]; exact (h.2.1 z).2 i hi⟩, fun z => ⟨by rw [h2]; exact (h.2.2 z).1, by rw [h3]; exact (h.2.2 z).2⟩⟩
theorem sy_push {IS MA SP WT IS' MA' SP' WT' : Nat → Int32} {SC SC' : Nat → Int64} {st : List sv_T} {v : sv_T} (h : sy_R IS MA SP WT SC st) (hf : sy_F st.length IS MA SP WT SC IS' MA' SP' WT' SC') (he : sy_E IS' MA' SP' WT' SC' st.length v) : sy_R IS' MA' SP' WT' SC' (v :: st) := ⟨he, sy_R_fr hf h⟩
theorem sy_m1 {a : Nat} (h : a < 2 ^ 30) : nI a - 1 < nI a := by
  rw [Int32.lt_iff_toInt_lt]
  have h1 := pk_sub_toInt (a := a) (b := 1) h (by decide)
  have h2 := nI_toInt (n := a) (by omega)
  have h3 : nI a - 1 = nI a - nI 1 := rfl
  rw [h3, h1, h2]
  omega
theorem sy_16 (p : Nat) : 16 * nI p = nI (16 * p) := by
  show nI 16 * nI p = _
  rw [pk_mul]
section
variable {gdc gsg gnn gpt gkp : Int32} {bN bP bL bT bS bD bV bPT bTK bLN bKD bSP bWT bIS bMA bNN bNC bKN bSH bIH : Nat → Int32} {bSC bKS bHS : Nat → Int64}
theorem yk_work {d st dc li pr : Nat} {l : List Nat} (hd : d < 32) (hP : sd_P bS st dc) (hL : sd_L bL) (hpr : pr < 100) (hPr : bP d = nI pr) (hli : li < 6) (hl15 : l.length ≤ 15) (hln : bLN li = nI l.length) (hH : sr_H bTK (16 * li) l) (htk : sv_tks l) {kk : Bool} (hb : sq_b l = some [kk]) {post : SY → Prop}
    (hp : ∀ (KD SP WT IS MA : Nat → Int32) (SC : Nat → Int64), MA 0 = sg_B (sv_rm (sd_W bT bL st) (sv_own (sd_n bL d) st (sg_sm (sd_n bL) st)) (fun i => bT (12 * d + i)) (sd_n bL d) pr l) → SC 0 = lN (sv_rs (sd_W bT bL st) (sv_own (sd_n bL d) st (sg_sm (sd_n bL) st)) (fun i => bT (12 * d + i)) (sd_n bL d) pr l) →
      post (nI dc, gsg, gnn, gpt, gkp, bN, bP, bL, bT, bS, bD, bV, bPT, bTK, bLN, KD, SP, WT, IS, MA, SC, bNN, bNC, bKN, bKS, bSH, bIH, bHS)) :
    wpY_work post (nI dc, gsg, gnn, gpt, gkp, bN, bP, bL, bT, bS, bD, bV, bPT, bTK, bLN, bKD, bSP, bWT, bIS, bMA, bSC, bNN, bNC, bKN, bKS, bSH, bIH, bHS) (nI li) (nI d) := by
  have hst := hP.1
  have h32 := hP.2.1
  have hlen := (hL d).2
  have hLd := (hL d).1
  have ed : (nI d).toNatClampNeg = d := nI_clamp (by omega)
  have hW : ∀ w, w < 8 → sd_W bT bL st w ≤ 9 := fun w _ => sd_W_le _ _ (by omega) w
  generalize hown : sv_own (sd_n bL d) st (sg_sm (sd_n bL) st) = own at hp
  generalize hT : (fun i => bT (12 * d + i)) = T at hp
  generalize hWW : sd_W bT bL st = W at hp hW
  generalize hlen' : sd_n bL d = len at hp hlen hLd
  have key : ∀ i, i ≤ l.length → ∀ (KD SP WT IS MA : Nat → Int32) (SC : Nat → Int64), sy_R IS MA SP WT SC (sv_ev W own T len pr (l.drop i)) →
      wY_work_17 post (nI li) (nI d) (i + 1) (nI (sv_ev W own T len pr (l.drop i)).length) (nI (16 * li + i) - 1) (nI dc) gsg gnn gpt gkp bN bP bL bT bS bD bV bPT bTK bLN KD SP WT IS MA SC bNN bNC bKN bKS bSH bIH bHS := by
    intro i
    induction i with
    | zero =>
      intro _ KD SP WT IS MA SC hR
      rw [List.drop_zero] at hR
      obtain ⟨v, hv⟩ := sv_one (W := W) (own := own) (T := T) (len := len) (pr := pr) htk hb
      have hp' := hp KD SP WT
      unfold sv_rm sv_rs at hp'
      have hpt := sv_ev_pt (own := own) (T := T) (len := len) (pr := pr) hW l
      rw [hv] at hp' hR hpt
      have hpt' : 3 * v.2.2.1 + v.2.2.2.2 + 0 ≤ 27 * l.length := hpt
      refine br_t (by rw [sy_16]; exact sy_m1 (by omega)) ?_
      refine ys_set (p := 0) (v := v) (by omega) hd hP hL hR.1 (fun _ => by omega) ?_
      intro IS' MA' SC' hE _
      rw [hown] at hE
      have hE3 := hE.2.2 (sv_se_1 own v)
      rw [(sv_se_m own v).2, (sv_se_s own v).2] at hE3
      exact hp' IS' MA' SC' hE3.1 hE3.2
    | succ i ih =>
      intro hi KD SP WT IS MA SC hR
      have hdr := sr_drop (l := l) (i := i) (by omega)
      have hmem := sr_getD_mem (l := l) (i := i) (by omega)
      have hQ := hH i (by omega)
      obtain ⟨ks, hks⟩ := sq_b_drop hb i (by omega)
      have htd : sv_tks (l.drop i) := fun x hx => htk x (List.mem_of_mem_drop hx)
      have ht := htk _ hmem
      have ih' := ih (by omega)
      rw [hdr] at hks htd ih'
      generalize l.getD i 0 = t at hQ ht hks htd ih'
      generalize hrest : l.drop (i + 1) = rest at hR hks htd ih'
      have hlr : rest.length + (i + 1) = l.length := by rw [← hrest, List.length_drop]; omega
      have hsl : (sv_ev W own T len pr rest).length ≤ rest.length := by
        obtain ⟨ks0, hk0⟩ := sq_b_tail hks
        have := sv_kinds (W := W) (own := own) (T := T) (len := len) (pr := pr) (fun x hx => htd x (List.mem_cons_of_mem _ hx)) hk0
        have h2 := sq_b_len hk0
        rw [← this, List.length_map] at h2
        exact h2
      have hpt := sv_ev_pt (own := own) (T := T) (len := len) (pr := pr) hW rest
      have ht2 : t < 2 ^ 31 := by unfold sv_tk at ht; omega
      have ei : nI (16 * li + (i + 1)) - 1 = nI (16 * li + i) := nI_pred (16 * li + i)
      have em : nI (16 * li + i) + (-1) = nI (16 * li + i) - 1 := (Int32.sub_eq_add_neg _ _).symm
      rw [ei]
      refine br_f (by rw [sy_16]; exact nI_nlt (by omega) (by omega)) ⟨vp_in_nI (by omega) (by omega), ?_⟩
      rw [nI_clamp (by omega)]
      refine nm_r hQ ?_
      have est : sv_ev W own T len pr (t :: rest) = sv_st W own T len pr t (sv_ev W own T len pr rest) := rfl
      rw [est] at ih'
      by_cases hw : t < 8
      · refine br_f (nI_ge (b := 8) hw (by decide)) ?_
        have e2 : sv_st W own T len pr t (sv_ev W own T len pr rest) = (true, sv_wd T len t, W t, false, 0) :: sv_ev W own T len pr rest := by unfold sv_st; rw [if_pos hw]
        rw [e2] at ih'
        generalize sv_ev W own T len pr rest = E at hR hsl hpt ih'
        refine ys_begin (by omega) true ?_
        refine yr_rarity hP hL ?_
        rw [hWW]
        refine ⟨vp_in_nI (by omega) (by omega), ?_⟩
        rw [nI_clamp (by omega)]
        refine nm_e ?_
        have hS1 : ∀ i, i < 12 → sd_cy SP (12 * E.length) (fun _ => 0) 0 12 (12 * E.length + i) = 0 := fun i hi => sd_cy_in hi
        have l63 : ∀ m j, j + m = len → wY_work_63 post (wY_work_17 post (nI li) (nI d) (i + 1)) (nI li) (nI d) (nI E.length) (nI (16 * li + i)) (nI t) (nI dc) gsg gnn gpt gkp (m + 1) (nI j) bN bP bL bT bS bD bV bPT bTK bLN KD (sd_cy (sd_cy SP (12 * E.length) (fun _ => 0) 0 12) (12 * E.length) (sv_wd T len t) 0 j) (upd WT E.length (nI (W t))) (upd IS E.length (sg_B true)) MA SC bNN bNC bKN bKS bSH bIH bHS := by
          intro m
          induction m with
          | zero =>
            intro j hj
            obtain rfl : j = len := by omega
            refine ⟨vp_in_nI hd (by omega), ?_⟩
            rw [ed, hLd]
            refine br_t (nI_le (Nat.le_refl _) (by omega)) (nm_r (nI_1 _) (nm_r em (ih' _ _ _ _ _ _ (sy_push hR ?_ ⟨pk_us, fun _ => ⟨pk_us, ?_⟩, fun z => absurd (show true = false from z) (by decide)⟩))))
            · intro q hq
              refine ⟨pk_un (by omega), rfl, pk_un (by omega), rfl, fun i hi => ?_⟩
              rw [sd_cy_out (by omega), sd_cy_out (by omega)]
            · intro i hi
              rcases Nat.lt_or_ge i j with h | h
              · rw [sd_cy_in h, Nat.zero_add]
              · rw [sd_cy_out (by omega), hS1 i hi]
                show 0 = sv_wd T j t i
                unfold sv_wd
                rw [if_neg (by omega)]
          | succ m ihm =>
            intro j hj
            have I := ihm (j + 1) (by omega)
            have e3 := sd_cy_s (sd_cy SP (12 * E.length) (fun _ => 0) 0 12) (12 * E.length) (sv_wd T len t) 0 j
            rw [Nat.zero_add] at e3
            have eT : bT (12 * d + j) = T j := by rw [← hT]
            refine ⟨vp_in_nI hd (by omega), ?_⟩
            rw [ed, hLd]
            refine br_f (nI_ge (by omega) (by omega)) ?_
            rw [sy_ix, sy_ix, nI_clamp (n := 12 * d + j) (by omega), nI_clamp (n := 12 * E.length + j) (by omega), eT]
            refine ⟨vp_in_nI (by omega) (by omega), br_c (fun hc => ?_) (fun hc => ?_)⟩
            · have e4 : sv_wd T len t j = (1 : Int32) <<< (nI j &&& 31) := by unfold sv_wd; rw [if_pos ⟨by omega, hc⟩]
              rw [e4] at e3
              exact ⟨vp_in_nI (by omega) (by omega), nm_r e3 (nm_r (nI_1 _) I)⟩
            · have e4 : sv_wd T len t j = 0 := by unfold sv_wd; rw [if_neg (fun z => hc z.2)]
              have eu := sy_u0 (sd_cy (sd_cy SP (12 * E.length) (fun _ => 0) 0 12) (12 * E.length) (sv_wd T len t) 0 j) (12 * E.length + j)
              rw [sd_cy_out (by omega), hS1 j (by omega)] at eu
              rw [e4, eu] at e3
              rw [← e3] at I
              exact nm_r (nI_1 _) I
        have k63 := l63 len 0 (Nat.zero_add _)
        rw [sd_cy_0] at k63
        exact Exists.intro (len + 1) k63
      · refine br_t (nI_le (a := 8) (by omega) ht2) ?_
        by_cases hr : 1000 ≤ t
        · have ht3 : t < 11000 := by unfold sv_tk at ht; omega
          have e2 : sv_st W own T len pr t (sv_ev W own T len pr rest) = (false, fun _ => 0, 0, decide ((t - 1000) / 100 ≤ pr ∧ pr ≤ (t - 1000) % 100), 0) :: sv_ev W own T len pr rest := by unfold sv_st; rw [if_neg hw, if_pos hr]
          rw [e2] at ih'
          generalize sv_ev W own T len pr rest = E at hR hsl hpt ih'
          refine br_f (nI_nlt (b := 1000) hr ht2) ?_
          refine ys_begin (by omega) false ?_
          have es : nI t - 1000 = nI (t - 1000) := pk_sub (b := 1000) hr
          have eq : nI (t - 1000) / 100 = nI ((t - 1000) / 100) := pk_div (d := 100) (by omega) (by omega) (by omega)
          have er : nI (t - 1000) - nI (t - 1000) / 100 * 100 = nI ((t - 1000) % 100) := pk_rem (d := 100) (by omega) (by omega) (by omega)
          refine ⟨vp_in_nI hd (by omega), by decide, by decide, ?_⟩
          rw [ed, hPr, es, er, eq]
          have go : ∀ z : Bool, decide ((t - 1000) / 100 ≤ pr ∧ pr ≤ (t - 1000) % 100) = z → (fun r_190 : Int32 => (vp_in (nI E.length) 20 ∧ ∀ a_matches_192 : Nat → Int32, a_matches_192 = upd MA (nI E.length).toNatClampNeg (vp_nar .boolean r_190) → (vp_in (nI E.length) 20 ∧ ∀ a_scores_194 : Nat → Int64, a_scores_194 = vp_updL SC (nI E.length).toNatClampNeg 0 → (∀ x3_195 : Int32, x3_195 = nI E.length + 1 → (∀ x4_196 : Int32, x4_196 = nI (16 * li + i) + (-1) → wY_work_17 post (nI li) (nI d) (i + 1) x3_195 x4_196 (nI dc) gsg gnn gpt gkp bN bP bL bT bS bD bV bPT bTK bLN KD (sd_cy SP (12 * E.length) (fun _ => 0) 0 12) WT (upd IS E.length (sg_B false)) a_matches_192 a_scores_194 bNN bNC bKN bKS bSH bIH bHS))))) (sg_B z) := by
            intro z hz
            show vp_in (nI E.length) 20 ∧ _
            rw [nI_clamp (n := E.length) (by omega)]
            have hvE : vp_in (nI E.length) 20 := vp_in_nI (by omega) (by omega)
            refine ⟨hvE, nm_r (by rw [sx_nb (sg_B_01 z)]) ⟨hvE, nm_e (nm_r (nI_1 _) (nm_r em (ih' _ _ _ _ _ _ (sy_push hR ?_ ⟨pk_us, fun z => absurd (show false = true from z) (by decide), fun _ => ⟨?_, pk_uLs⟩⟩))))⟩⟩
            · intro q hq
              exact ⟨pk_un (by omega), pk_un (by omega), rfl, pk_uLn (by omega), fun i hi => sd_cy_out (by omega)⟩
            · rw [pk_us, hz]
          by_cases hin : (t - 1000) / 100 ≤ pr ∧ pr ≤ (t - 1000) % 100
          · exact yw_in1 (nI_nlt hin.1 (by omega)) (nI_nlt hin.2 (by omega)) (go true (decide_eq_true hin))
          · refine yw_in0 ?_ (go false (decide_eq_false hin))
            rcases Nat.lt_or_ge pr ((t - 1000) / 100) with h | h
            · exact Or.inl (nI_lt h (by omega))
            · exact Or.inr (nI_lt (by omega) (by omega))
        · have hj : 8 ≤ t ∧ t ≤ 12 := by unfold sv_tk at ht; omega
          obtain ⟨a, b, r, hE, hsp⟩ := sv_shape (W := W) (own := own) (T := T) (len := len) (pr := pr) htd hks hj
          have e2 : sv_st W own T len pr t (sv_ev W own T len pr rest) = sv_j own t a b :: r := by unfold sv_st; rw [if_neg hw, if_neg hr, hE]
          rw [e2] at ih'
          rw [hE] at hR hsl hpt ⊢
          rw [List.length_cons, List.length_cons] at hsl ⊢
          obtain ⟨ea, eb, hRr⟩ := hR
          rw [List.length_cons] at ea
          have hpt' : sv_pt (a :: b :: r) = 3 * a.2.2.1 + a.2.2.2.2 + (3 * b.2.2.1 + b.2.2.2.2 + sv_pt r) := rfl
          refine br_t (nI_lt (b := 1000) (by omega) (by decide)) (nm_r (pk_m1 _) ?_)
          by_cases hs : t = 11 ∨ t = 12
          · obtain ⟨ha1, hb1⟩ := hsp hs
            have e3 : sv_j own t a b = (true, fun i => sv_ch (if t = 11 then 1 else 3) (a.2.1 i) b.2.1 12, b.2.2.1 + a.2.2.1, false, 0) := by unfold sv_j; rw [if_pos (by omega)]
            rw [e3] at ih'
            refine br_f (nI_nlt (b := 11) (by omega) ht2) ?_
            have go : ∀ far : Nat, (far = 1 ∨ far = 3) → (if t = 11 then 1 else 3) = far → wY_work_203 post (wY_work_17 post (nI li) (nI d) (i + 1)) (nI li) (nI d) (nI (r.length + 1)) (nI (16 * li + i)) (nI far) (nI (r.length + 1)) (nI dc) gsg gnn gpt gkp bN bP bL bT bS bD bV bPT bTK bLN KD SP WT IS MA SC bNN bNC bKN bKS bSH bIH bHS := by
              intro far hfar hf2
              rw [hf2] at ih'
              refine ys_chain (sa := a.2.1) (sb := b.2.1) (w1 := a.2.2.1) (w2 := b.2.2.1) (by omega) hfar (ea.2.1 ha1).2 (eb.2.1 hb1).2 (ea.2.1 ha1).1 (eb.2.1 hb1).1 ?_
              intro KD' SP' hS1 hS2
              refine nm_r em (ih' _ _ _ _ _ _ (sy_push hRr ?_ ⟨?_, fun _ => ⟨pk_us, hS1⟩, fun z => absurd (show true = false from z) (by decide)⟩))
              · intro q hq
                exact ⟨rfl, rfl, pk_un (by omega), rfl, fun i hi => hS2 _ (by omega)⟩
              · rw [eb.1, hb1]
            by_cases h11 : t = 11
            · exact br_t (by rw [h11]; rfl) (go 1 (Or.inl rfl) (if_pos h11))
            · exact br_f (fun z => h11 ((nI_eq (b := 11) ht2 (by decide)).mp z)) (go 3 (Or.inr rfl) (if_neg h11))
          · have e3 : sv_j own t a b = (false, fun _ => 0, 0, sv_cm t (sv_mt a) (sv_mt b), if t = 10 then sv_ss own a else sv_ss own a + sv_ss own b) := by unfold sv_j; rw [if_neg (by omega)]
            rw [e3] at ih'
            refine br_t (nI_lt (b := 11) (by omega) (by decide)) ?_
            refine ys_set (p := r.length + 1) (v := a) (by omega) hd hP hL ea (fun _ => by omega) ?_
            intro IS1 MA1 SC1 hE1 hf1
            rw [hown] at hE1
            show wpY_settled _ _ (nI (r.length + 1) - 1) (nI d)
            rw [nI_pred]
            obtain ⟨f1, f2, f3⟩ := hf1 r.length (by omega)
            refine ys_set (p := r.length) (v := b) (by omega) hd hP hL (sy_E_fr f1 f2 f3 rfl (fun _ _ => rfl) eb) (fun _ => by omega) ?_
            intro IS2 MA2 SC2 hE2 hf2
            rw [hown] at hE2
            obtain ⟨g1, g2, g3⟩ := hf2 (r.length + 1) (by omega)
            have hEa := hE1.2.2 (sv_se_1 own a)
            rw [(sv_se_m own a).2, (sv_se_s own a).2] at hEa
            have hEb := hE2.2.2 (sv_se_1 own b)
            rw [(sv_se_m own b).2, (sv_se_s own b).2] at hEb
            have hIb := hE2.1
            rw [sv_se_1] at hIb
            refine ys_connect (p := r.length) (x := sv_mt a) (y := sv_mt b) (s1 := sv_ss own a) (s2 := sv_ss own b) (by omega) (by omega) (by rw [g2]; exact hEa.1) hEb.1 (by rw [g3]; exact hEa.2) hEb.2 ?_
            refine nm_r em (ih' _ _ _ _ _ _ (sy_push hRr ?_ ⟨hIb, fun z => absurd (show false = true from z) (by decide), fun _ => ⟨pk_us, pk_uLs⟩⟩))
            intro q hq
            obtain ⟨q1, q2, q3⟩ := hf1 q (by omega)
            obtain ⟨q4, q5, q6⟩ := hf2 q (by omega)
            exact ⟨by rw [q4, q1], by rw [pk_un (by omega), q5, q2], rfl, by rw [pk_uLn (by omega), q6, q3], fun _ _ => rfl⟩
  have k0 := key l.length (Nat.le_refl _) bKD bSP bWT bIS bMA bSC (by rw [List.drop_length]; exact trivial)
  rw [List.drop_length] at k0
  refine ⟨vp_in_nI hli (by omega), ?_⟩
  rw [nI_clamp (by omega), hln, sy_16, nI_add]
  exact nm_e (Exists.intro (l.length + 1) k0)
end
end
section
def sn_WY (W : Nat → List Nat) (bTK bLN : Nat → Int32) : Prop :=
  ∀ w, w < 4 → (W w).length ≤ 12 ∧ sv_tks (W w) ∧ (W w ≠ [] → ∃ v, sq_b (W w) = some [v]) ∧ bLN (1 + w) = nI (W w).length ∧ sr_H bTK (16 * (1 + w)) (W w)
section
variable {gdc gsg gnn gpt gkp : Int32} {bN bP bL bT bS bD bV bPT bTK bLN bKD bSP bWT bIS bMA bNN bNC bKN bSH bIH : Nat → Int32} {bSC bKS bHS : Nat → Int64}
theorem yn_drop {w c : Nat} (hw : w < 4) (hc : bNC w = nI c) (h1 : 1 ≤ c) (h8 : c ≤ 8) {post : SY → Prop} (hp : post (gdc, gsg, gnn, gpt, gkp, bN, bP, bL, bT, bS, bD, bV, bPT, bTK, bLN, bKD, bSP, bWT, bIS, bMA, bSC, sd_dr bNN (8 * w) (c - 1), upd bNC w (nI (c - 1)), bKN, bKS, bSH, bIH, bHS)) : wpY_drop post (gdc, gsg, gnn, gpt, gkp, bN, bP, bL, bT, bS, bD, bV, bPT, bTK, bLN, bKD, bSP, bWT, bIS, bMA, bSC, bNN, bNC, bKN, bKS, bSH, bIH, bHS) (nI w) := by
  have ew : (nI w).toNatClampNeg = w := nI_clamp (by omega)
  have hv : vp_in (nI w) 4 := vp_in_nI hw (by omega)
  have key : ∀ m k, k + m = c - 1 → wY_drop_15 post (nI w) gdc gsg gnn gpt gkp (m + 1) (nI (8 * w + k)) bN bP bL bT bS bD bV bPT bTK bLN bKD bSP bWT bIS bMA bSC (sd_dr bNN (8 * w) k) (upd bNC w (nI (c - 1))) bKN bKS bSH bIH bHS := by
    intro m
    induction m with
    | zero =>
      intro k h
      obtain rfl : k = c - 1 := by omega
      refine ⟨hv, ?_⟩
      rw [ew, pk_us, sy_8, nI_add]
      exact br_t (nI_le (Nat.le_refl _) (by omega)) hp
    | succ m ih =>
      intro k h
      refine ⟨hv, ?_⟩
      rw [ew, pk_us, sy_8, nI_add]
      refine br_f (nI_ge (by omega) (by omega)) ?_
      have e1 : nI (8 * w + k) + 1 = nI (8 * w + k + 1) := nI_1 _
      refine ⟨by rw [e1]; exact vp_in_nI (by omega) (by omega), vp_in_nI (by omega) (by omega), nm_r ?_ (nm_r e1 (ih (k + 1) (by omega)))⟩
      rw [e1, nI_clamp (by omega), nI_clamp (by omega)]
      exact sd_dr_s bNN (8 * w) k
  have k0 := key (c - 1) 0 (Nat.zero_add _)
  rw [sd_dr_0] at k0
  refine ⟨hv, hv, ?_⟩
  rw [ew, hc]
  have ec : nI c - 1 = nI (c - 1) := pk_sub (b := 1) h1
  exact nm_r (by rw [ec]) (nm_r (sy_8 w) (Exists.intro (c - 1 + 1) k0))
theorem yn_tell {d st dc : Nat} {W : Nat → List Nat} {D : sd_D} (hd : d < dc) (hD : sd_ok D) (hP : sd_P D.2.2.2.2.1 st dc) (hW : sn_WY W bTK bLN) (hN : sr_N bNC) {post : SY → Prop}
    (hp : ∀ (KD SP WT IS MA : Nat → Int32) (SC : Nat → Int64), post (nI dc, gsg, gnn, gpt, gkp, D.1, D.2.1, D.2.2.1, D.2.2.2.1, D.2.2.2.2.1, D.2.2.2.2.2, bV, bPT, bTK, bLN, KD, SP, WT, IS, MA, SC, (sn_w W (sn_mt D d) (D.1 d) 4 (bNN, bNC)).1, (sn_w W (sn_mt D d) (D.1 d) 4 (bNN, bNC)).2, bKN, bKS, bSH, bIH, bHS)) :
    wpY_tell post (nI dc, gsg, gnn, gpt, gkp, D.1, D.2.1, D.2.2.1, D.2.2.2.1, D.2.2.2.2.1, D.2.2.2.2.2, bV, bPT, bTK, bLN, bKD, bSP, bWT, bIS, bMA, bSC, bNN, bNC, bKN, bKS, bSH, bIH, bHS) (nI d) := by
  have hL := sd_ok_L hD
  have h32 := hP.2.1
  have ed : (nI d).toNatClampNeg = d := nI_clamp (by omega)
  have key : ∀ m w (KD SP WT IS MA : Nat → Int32) (SC : Nat → Int64), w + m = 4 → wY_tell_2 post (nI d) (m + 1) (nI w) (nI dc) gsg gnn gpt gkp D.1 D.2.1 D.2.2.1 D.2.2.2.1 D.2.2.2.2.1 D.2.2.2.2.2 bV bPT bTK bLN KD SP WT IS MA SC ((sn_w W (sn_mt D d) (D.1 d) w (bNN, bNC)).1) ((sn_w W (sn_mt D d) (D.1 d) w (bNN, bNC)).2) bKN bKS bSH bIH bHS := by
    intro m
    induction m with
    | zero =>
      intro w KD SP WT IS MA SC h
      obtain rfl : w = 4 := by omega
      exact br_t (nI_le (b := 4) (Nat.le_refl _) (by decide)) (hp KD SP WT IS MA SC)
    | succ m ih =>
      intro w KD SP WT IS MA SC h
      have ew : (nI w).toNatClampNeg = w := nI_clamp (by omega)
      have hv : vp_in (nI w) 4 := vp_in_nI (by omega) (by omega)
      have e1w : 1 + nI w = nI (1 + w) := nI_add 1 w
      obtain ⟨w1, w2, w3, w4, w5⟩ := hW w (by omega)
      have I := ih (w + 1)
      have hsn := sn_w_N (W := W) (mt := sn_mt D d) (x := D.1 d) (s := (bNN, bNC)) hN w (by omega)
      have es : sn_w W (sn_mt D d) (D.1 d) (w + 1) (bNN, bNC) = if (W w).length = 0 then sn_w W (sn_mt D d) (D.1 d) w (bNN, bNC) else if sn_mt D d (W w) = true then sn_ap (sn_w W (sn_mt D d) (D.1 d) w (bNN, bNC)) w (D.1 d) else sn_w W (sn_mt D d) (D.1 d) w (bNN, bNC) := rfl
      rw [es] at I
      generalize sn_w W (sn_mt D d) (D.1 d) w (bNN, bNC) = s at I hsn
      refine br_f (nI_ge (b := 4) (by omega) (by decide)) ?_
      rw [e1w, nI_clamp (n := 1 + w) (by omega), w4]
      refine ⟨vp_in_nI (by omega) (by omega), ?_⟩
      by_cases hz : (W w).length = 0
      · rw [if_pos hz] at I
        exact br_t (by rw [hz]; rfl) (nm_r (nI_1 _) (I KD SP WT IS MA SC (by omega)))
      · rw [if_neg hz] at I
        refine br_f (nI_ne0 (by omega) (by omega)) ?_
        obtain ⟨kk, hkk⟩ := w3 (fun z => hz (by rw [z]; rfl))
        refine yk_work (li := 1 + w) (pr := sd_n D.2.1 d) (by omega) hP hL (sd_ok_P hD d).2 (sd_ok_P hD d).1 (by omega) (by omega) w4 w5 w2 hkk ?_
        intro KD SP WT IS MA SC hM _
        have em : sv_rm (sd_W D.2.2.2.1 D.2.2.1 st) (sv_own (sd_n D.2.2.1 d) st (sg_sm (sd_n D.2.2.1) st)) (fun i => D.2.2.2.1 (12 * d + i)) (sd_n D.2.2.1 d) (sd_n D.2.1 d) (W w) = sn_mt D d (W w) := sv_rm_ind _
        rw [em] at hM
        show (MA 0 = 0 → _) ∧ (¬ MA 0 = 0 → _)
        rw [hM]
        cases hm : sn_mt D d (W w) with
        | false =>
          rw [hm, if_neg (by decide)] at I
          exact br_t rfl (nm_r (nI_1 _) (I KD SP WT IS MA SC (by omega)))
        | true =>
          rw [hm, if_pos rfl] at I
          refine br_f (by decide) ⟨hv, ?_⟩
          obtain ⟨hc, h8⟩ := sr_N_n hsn (show w < 4 by omega)
          unfold sn_ap at I
          generalize sd_n s.2 w = c at hc h8 I
          rw [ew, hc]
          by_cases hc8 : c = 8
          · subst hc8
            rw [if_pos (Nat.le_refl _)] at I
            refine br_t rfl (yn_drop (by omega) hc (by omega) (by omega) ?_)
            have e1 : nI w |> fun x => 8 * x + nI 7 = nI (8 * w + 7) := by
              show 8 * nI w + nI 7 = _
              rw [sy_8, nI_add]
            refine ⟨hv, hv, ?_⟩
            rw [ew, pk_us]
            refine nm_r (show upd _ w (nI 7 + 1) = upd _ w (nI 8) by rw [nI_1]) ⟨vp_in_nI (by omega) (by omega), ?_⟩
            refine ⟨by show vp_in (8 * nI w + nI 7) 32; rw [e1]; exact vp_in_nI (by omega) (by omega), ?_⟩
            refine nm_r (show upd _ (8 * nI w + nI 7).toNatClampNeg (D.1 (nI d).toNatClampNeg) = _ by rw [e1, nI_clamp (by omega), ed]) (nm_r (nI_1 _) (I KD SP WT IS MA SC (by omega)))
          · rw [if_neg (by omega)] at I
            refine br_f (fun z => hc8 ((nI_eq (b := 8) (by omega) (by decide)).mp z)) ?_
            have e1 : 8 * nI w + nI c = nI (8 * w + c) := by rw [sy_8, nI_add]
            refine ⟨hv, hv, ?_⟩
            rw [ew, hc, ed, e1, nI_clamp (by omega), nI_1]
            exact nm_e ⟨vp_in_nI (by omega) (by omega), vp_in_nI (by omega) (by omega), nm_e (nm_r (nI_1 _) (I KD SP WT IS MA SC (by omega)))⟩
  exact Exists.intro 5 (key 4 0 bKD bSP bWT bIS bMA bSC rfl)
theorem sn_mt_S {N P L T S S' X : Nat → Int32} : sn_mt (N, P, L, T, S, X) = sn_mt (N, P, L, T, S', X) := rfl
theorem ym_flush {dc st sg : Nat} {W : Nat → List Nat} {D : sd_D} (hD : sd_ok D) (hI : sd_I D.2.2.2.2.1 st dc sg) (hW : sn_WY W bTK bLN) (hN : sr_N bNC) (V : Nat → Int32) (hV : ∀ j, j < sg → V j = bV j) {post : Int32 → SY → Prop}
    (h0 : st = dc → post (nI sg) (nI dc, nI sg, gnn, gpt, gkp, D.1, D.2.1, D.2.2.1, D.2.2.2.1, D.2.2.2.2.1, D.2.2.2.2.2, bV, bPT, bTK, bLN, bKD, bSP, bWT, bIS, bMA, bSC, bNN, bNC, bKN, bKS, bSH, bIH, bHS))
    (hp : st < dc → ∀ (s : sm_S) (n : sn_S), s = sm_go 16 (sm_fl D st dc sg, upd V sg 0, dc, sg + 1) → n = sn_t W (sn_mt D) D.1 st (dc - st) (bNN, bNC) → ∀ (V' KD SP WT IS MA : Nat → Int32) (SC : Nat → Int64), (∀ j, j < s.2.2.2 → s.2.1 j = V' j) →
      post (nI s.2.2.2) (nI s.2.2.1, nI s.2.2.2, gnn, gpt, gkp, (s.1).1, (s.1).2.1, (s.1).2.2.1, (s.1).2.2.2.1, (s.1).2.2.2.2.1, (s.1).2.2.2.2.2, V', bPT, bTK, bLN, KD, SP, WT, IS, MA, SC, n.1, n.2, bKN, bKS, bSH, bIH, bHS)) :
    wpY_flush post (nI dc, nI sg, gnn, gpt, gkp, D.1, D.2.1, D.2.2.1, D.2.2.2.1, D.2.2.2.2.1, D.2.2.2.2.2, bV, bPT, bTK, bLN, bKD, bSP, bWT, bIS, bMA, bSC, bNN, bNC, bKN, bKS, bSH, bIH, bHS) := by
  have hsg := sd_I_sg hI
  have hP := sd_I_P hI
  have hPc := sd_P_cn hP
  obtain ⟨h1, h32, h3, h4⟩ := hP
  refine yr_many h32 (fun j => decide (st ≤ j)) hPc ?_
  rw [sd_P_c h1]
  rcases Nat.lt_or_ge st dc with hlt | hge
  · refine br_f (nI_ne0 (by omega) (by omega)) ?_
    have part : ∀ i, i ≤ dc - st → sd_P (sd_cy D.2.2.2.2.1 st (fun _ => nI sg) 0 i) (st + i) dc := by
      intro i hi
      refine ⟨by omega, h32, fun d hd => ?_, fun d a b => ?_⟩
      · rcases Nat.lt_or_ge d st with e | e
        · rw [sd_cy_out (by omega)]; exact h3 d e
        · refine ⟨sg, by omega, ?_⟩
          unfold sd_cy
          rw [if_pos (by omega)]
      · rw [sd_cy_out (by omega)]; exact h4 d (by omega) b
    have hp2 : ∀ m i (KD SP WT IS MA : Nat → Int32) (SC : Nat → Int64), i + m = dc - st → wY_flush_15 post (m + 1) (nI (st + i)) (nI dc) (nI sg) gnn gpt gkp D.1 D.2.1 D.2.2.1 D.2.2.2.1 (sd_cy D.2.2.2.2.1 st (fun _ => nI sg) 0 i) D.2.2.2.2.2 bV bPT bTK bLN KD SP WT IS MA SC ((sn_t W (sn_mt D) D.1 st i (bNN, bNC)).1) ((sn_t W (sn_mt D) D.1 st i (bNN, bNC)).2) bKN bKS bSH bIH bHS := by
      intro m
      induction m with
      | zero =>
        intro i KD SP WT IS MA SC h
        obtain rfl : i = dc - st := by omega
        have hI' := sm_fl_I hI hlt
        refine br_t (nI_le (by omega) (by omega)) (nm_r (nI_1 _) ⟨vp_in_nI (by omega) (by omega), ?_⟩)
        rw [nI_clamp (by omega)]
        refine nm_e (Exists.intro 17 ?_)
        refine ym_merge 16 (sm_fl D st dc sg, upd V sg 0, dc, sg + 1) (upd bV sg 0) ⟨hD, hI'⟩ (by show sg + 1 ≤ 34; omega) (fun j hj => ?_) (fun V' hV' => ?_)
        · have hj' : j < sg + 1 := hj
          show upd V sg 0 j = upd bV sg 0 j
          by_cases e : j = sg
          · subst e; rw [pk_us, pk_us]
          · rw [pk_un e, pk_un e]; exact hV j (by omega)
        · exact hp hlt _ _ rfl rfl V' KD SP WT IS MA SC hV'
      | succ m ih =>
        intro i KD SP WT IS MA SC h
        have ei : (nI (st + i)).toNatClampNeg = st + i := nI_clamp (by omega)
        refine br_f (nI_ge (by omega) (by omega)) ⟨vp_in_nI (by omega) (by omega), ?_⟩
        rw [ei]
        refine br_t (by rw [sd_cy_out (by omega)]; exact h4 _ (by omega) (by omega)) ?_
        refine yn_tell (D := (D.1, D.2.1, D.2.2.1, D.2.2.2.1, sd_cy D.2.2.2.2.1 st (fun _ => nI sg) 0 i, D.2.2.2.2.2)) (st := st + i) (by omega) hD (part i (by omega)) hW (sn_t_N hN i) ?_
        intro KD SP WT IS MA SC
        refine ⟨vp_in_nI (by omega) (by omega), nm_r ?_ (nm_r (nI_1 _) (ih (i + 1) KD SP WT IS MA SC (by omega)))⟩
        exact sd_cy_s D.2.2.2.2.1 st (fun _ => nI sg) 0 i
    have hp1 : ∀ k j, j + k = st → wY_flush_15 post (k + (dc - st + 1)) (nI j) (nI dc) (nI sg) gnn gpt gkp D.1 D.2.1 D.2.2.1 D.2.2.2.1 D.2.2.2.2.1 D.2.2.2.2.2 bV bPT bTK bLN bKD bSP bWT bIS bMA bSC bNN bNC bKN bKS bSH bIH bHS := by
      intro k
      induction k with
      | zero =>
        intro j h
        obtain rfl : j = st := by omega
        have k0 := hp2 (dc - j) 0 bKD bSP bWT bIS bMA bSC (Nat.zero_add _)
        rw [sd_cy_0] at k0
        rw [Nat.zero_add]
        exact k0
      | succ k ih =>
        intro j h
        obtain ⟨c, hc, e⟩ := h3 j (by omega)
        have ef : k + 1 + (dc - st + 1) = k + (dc - st + 1) + 1 := by omega
        rw [ef]
        refine br_f (nI_ge (by omega) (by omega)) ⟨vp_in_nI (by omega) (by omega), ?_⟩
        rw [nI_clamp (by omega)]
        exact br_f (by rw [e]; exact sx_nm hc) (nm_r (nI_1 _) (ih (j + 1) (by omega)))
    exact Exists.intro _ (hp1 st 0 (Nat.zero_add _))
  · have e0 : dc - st = 0 := by omega
    rw [e0]
    exact br_t rfl (h0 (by omega))
end
end
section
section
variable {gdc gsg gnn gpt gkp : Int32} {bN bP bL bT bS bD bV bPT bTK bLN bKD bSP bWT bIS bMA bNN bNC bKN bSH bIH : Nat → Int32} {bSC bKS bHS : Nat → Int64}
/-- what the first round of look leaves of one row -/
theorem yl_prec {k d : Nat} {bp : Int32} {D : sd_D} {sco : Nat → Nat} (hk : k < 32) (hd : d < 32) (hD : sd_ok D) (hs : ∀ e, sco e ≤ 405) (hSk : bHS k = lN (sco k)) (hSd : bHS d = lN (sco d)) {post : Int32 → Prop}
    (hp : post (sg_B (rk_pr (fun i => (if bp = 0 then nI (sco i) else -(D.2.1 i) : Int32).toInt) k d))) : wpY_precedes post (gdc, gsg, gnn, gpt, gkp, D.1, D.2.1, D.2.2.1, D.2.2.2.1, D.2.2.2.2.1, D.2.2.2.2.2, bV, bPT, bTK, bLN, bKD, bSP, bWT, bIS, bMA, bSC, bNN, bNC, bKN, bKS, bSH, bIH, bHS) (nI k) (nI d) bp := by
  have ek : (nI k).toNatClampNeg = k := nI_clamp (by omega)
  have ed : (nI d).toNatClampNeg = d := nI_clamp (by omega)
  have hvk : vp_in (nI k) 32 := vp_in_nI hk (by omega)
  have hvd : vp_in (nI d) 32 := vp_in_nI hd (by omega)
  have f44 : ∀ x y : Int64, (x < y ↔ (if bp = 0 then nI (sco d) else -(D.2.1 d) : Int32).toInt < (if bp = 0 then nI (sco k) else -(D.2.1 k) : Int32).toInt) → (x = y ↔ (if bp = 0 then nI (sco k) else -(D.2.1 k) : Int32).toInt = (if bp = 0 then nI (sco d) else -(D.2.1 d) : Int32).toInt) →
      wY_precedes_44 post (nI k) (nI d) x y gdc gsg gnn gpt gkp D.1 D.2.1 D.2.2.1 D.2.2.2.1 D.2.2.2.2.1 D.2.2.2.2.2 bV bPT bTK bLN bKD bSP bWT bIS bMA bSC bNN bNC bKN bKS bSH bIH bHS := by
    intro x y h1 h2
    refine br_c (fun hc => ?_) (fun hc => br_c (fun he => br_c (fun hl => ?_) (fun hl => ?_)) (fun he => ?_))
    · rw [rk_pr_iff.mpr (Or.inl (h1.mp hc))] at hp
      exact hp
    · have hl' : d ≤ k := (nI_leI (by omega) (by omega)).mp hl
      rw [rk_pr_ff.mpr (fun z => by
        rcases z with z | z
        · exact hc (h1.mpr z)
        · omega)] at hp
      exact hp
    · have hl' : ¬ d ≤ k := fun z => hl ((nI_leI (by omega) (by omega)).mpr z)
      rw [rk_pr_iff.mpr (Or.inr ⟨h2.mp he, by omega⟩)] at hp
      exact hp
    · rw [rk_pr_ff.mpr (fun z => by
        rcases z with z | z
        · exact hc (h1.mpr z)
        · exact he (h2.mpr z.1))] at hp
      exact hp
  have neg : ∀ n : Nat, n ≤ 405 → (-(lN n)).toInt = -(n : Int) := by
    intro n hn
    rw [Int64.toInt_neg, pk_lT (by omega)]
    exact Int.bmod_eq_of_le (by omega) (by omega)
  have negI : ∀ n : Nat, n < 100 → (-(nI n)).toInt = -(n : Int) := by
    intro n hn
    rw [Int32.toInt_neg, nI_toInt (by omega)]
    exact Int.bmod_eq_of_le (by omega) (by omega)
  by_cases hb : bp = 0
  · refine br_t hb ⟨hvk, br_t hb ⟨hvd, ?_⟩⟩
    rw [ek, ed, hSk, hSd]
    have a1 := neg (sco k) (hs k)
    have a2 := neg (sco d) (hs d)
    have a3 := nI_toInt (n := sco k) (by have := hs k; omega)
    have a4 := nI_toInt (n := sco d) (by have := hs d; omega)
    refine f44 _ _ ?_ ?_
    · rw [if_pos hb, if_pos hb, Int64.lt_iff_toInt_lt, a1, a2, a3, a4]
      omega
    · rw [if_pos hb, if_pos hb, ← Int64.toInt_inj, a1, a2, a3, a4]
      omega
  · refine br_f hb ⟨hvk, br_f hb ⟨hvd, ?_⟩⟩
    obtain ⟨p1, p2⟩ := sd_ok_P hD k
    obtain ⟨q1, q2⟩ := sd_ok_P hD d
    rw [ek, ed]
    have a1 := negI _ p2
    have a2 := negI _ q2
    refine f44 _ _ ?_ ?_
    · rw [if_neg hb, if_neg hb, p1, q1, a1, a2, nI_l (by omega), nI_l (by omega), lN_lt (by omega) (by omega)]
      omega
    · rw [if_neg hb, if_neg hb, p1, q1, a1, a2, nI_l (by omega), nI_l (by omega), lN_eq (by omega) (by omega)]
      omega
theorem yl_look {D : sd_D} {dc st lim : Nat} {l : List Nat} {bp ex : Int32} (hD : sd_ok D) (hP : sd_P D.2.2.2.2.1 st dc) (hl : l.length ≤ 15) (hln : bLN 5 = nI l.length) (hH : sr_H bTK 80 l) (htk : sv_tks l) {kk : Bool} (hb : sq_b l = some [kk]) (hlim : lim ≤ 10) {post : Int32 → SY → Prop}
    (hp : ∀ (KD SP WT IS MA KN SH IH : Nat → Int32) (SC KS HS : Nat → Int64),
      (∀ e, e < dc → sf_H D st ex l e = true → rk_bf (sf_H D st ex l) (fun i => (sf_R D st bp l i).toInt) dc e < lim → KN (rk_bf (sf_H D st ex l) (fun i => (sf_R D st bp l i).toInt) dc e) = D.1 e ∧ KS (rk_bf (sf_H D st ex l) (fun i => (sf_R D st bp l i).toInt) dc e) = lN (sf_S D st l e)) →
      (∀ k, k < 10 → SH k = nI (sg_cn (sf_C D st ex l k) dc)) →
      post (nI (sg_cn (sf_H D st ex l) dc)) (nI dc, gsg, gnn, gpt, nI (min (sg_cn (sf_H D st ex l) dc) lim), D.1, D.2.1, D.2.2.1, D.2.2.2.1, D.2.2.2.2.1, D.2.2.2.2.2, bV, bPT, bTK, bLN, KD, SP, WT, IS, MA, SC, bNN, bNC, KN, KS, SH, IH, HS)) :
    wpY_look post (nI dc, gsg, gnn, gpt, gkp, D.1, D.2.1, D.2.2.1, D.2.2.2.1, D.2.2.2.2.1, D.2.2.2.2.2, bV, bPT, bTK, bLN, bKD, bSP, bWT, bIS, bMA, bSC, bNN, bNC, bKN, bKS, bSH, bIH, bHS) ex (nI lim) bp := by
  have hL := sd_ok_L hD
  have h1 := hP.1
  have h32 := hP.2.1
  have hcnle := sg_cn_le (sf_H D st ex l) dc
  -- the second round
  have second : ∀ (kp : Int32) (KD SP WT IS MA SH IH : Nat → Int32) (SC HS : Nat → Int64), kp = nI (min (sg_cn (sf_H D st ex l) dc) lim) → (∀ e, e < dc → IH e = sg_B (sf_H D st ex l e)) → (∀ e, e < dc → sf_H D st ex l e = true → HS e = lN (sf_S D st l e)) → (∀ k, k < 10 → SH k = nI (sg_cn (sf_C D st ex l k) dc)) →
      ∀ m d (KN : Nat → Int32) (KS : Nat → Int64), d + m = dc →
      (∀ e, e < d → sf_H D st ex l e = true → rk_bf (sf_H D st ex l) (fun i => (sf_R D st bp l i).toInt) dc e < lim → KN (rk_bf (sf_H D st ex l) (fun i => (sf_R D st bp l i).toInt) dc e) = D.1 e ∧ KS (rk_bf (sf_H D st ex l) (fun i => (sf_R D st bp l i).toInt) dc e) = lN (sf_S D st l e)) →
      wY_look_183 post (nI lim) bp (nI (sg_cn (sf_H D st ex l) dc)) (nI dc) gsg gnn gpt kp (m + 1) (nI d) D.1 D.2.1 D.2.2.1 D.2.2.2.1 D.2.2.2.2.1 D.2.2.2.2.2 bV bPT bTK bLN KD SP WT IS MA SC bNN bNC KN KS SH IH HS := by
    intro kp KD SP WT IS MA SH IH SC HS hkp hIH hHS hSH m
    induction m with
    | zero =>
      intro d KN KS h hK
      obtain rfl : d = dc := by omega
      rw [hkp]
      exact br_t (nI_le (Nat.le_refl _) (by omega)) (hp KD SP WT IS MA KN SH IH SC KS HS hK hSH)
    | succ m ih =>
      intro d KN KS h hK
      have ed : (nI d).toNatClampNeg = d := nI_clamp (by omega)
      have hv : vp_in (nI d) 32 := vp_in_nI (by omega) (by omega)
      have I := ih (d + 1)
      refine br_f (nI_ge (by omega) (by omega)) ⟨hv, ?_⟩
      rw [ed, hIH d (by omega)]
      cases hm : sf_H D st ex l d with
      | false =>
        refine br_t rfl (nm_r (nI_1 _) (I KN KS (by omega) (fun e he hHe => hK e ?_ hHe)))
        rcases Nat.lt_or_ge e d with a | a
        · exact a
        · obtain rfl : e = d := by omega
          rw [hm] at hHe
          exact absurd hHe (by decide)
      | true =>
        refine br_f (by decide) (Exists.intro (dc + 1) ?_)
        have l211 : ∀ q k, k + q = dc → wY_look_211 post (wY_look_183 post (nI lim) bp (nI (sg_cn (sf_H D st ex l) dc)) (nI dc) gsg gnn gpt kp (m + 1)) (nI lim) bp (nI (sg_cn (sf_H D st ex l) dc)) (nI d) (nI dc) gsg gnn gpt kp D.1 D.2.1 D.2.2.1 D.2.2.2.1 D.2.2.2.2.1 D.2.2.2.2.2 bV bPT bTK bLN KD SP WT IS MA SC bNN bNC KN KS SH IH HS (q + 1) (nI (sg_cn (fun k => sf_H D st ex l k && rk_pr (fun i => (sf_R D st bp l i).toInt) k d) k)) (nI k) := by
          intro q
          induction q with
          | zero =>
            intro k hk
            obtain rfl : k = dc := by omega
            refine br_t (nI_le (Nat.le_refl _) (by omega)) ?_
            have hbl : rk_bf (sf_H D st ex l) (fun i => (sf_R D st bp l i).toInt) k d ≤ k := sg_cn_le _ _
            have eB : sg_cn (fun k => sf_H D st ex l k && rk_pr (fun i => (sf_R D st bp l i).toInt) k d) k = rk_bf (sf_H D st ex l) (fun i => (sf_R D st bp l i).toInt) k d := rfl
            rw [eB]
            have hinj : ∀ e, e < d → sf_H D st ex l e = true → rk_bf (sf_H D st ex l) (fun i => (sf_R D st bp l i).toInt) k e ≠ rk_bf (sf_H D st ex l) (fun i => (sf_R D st bp l i).toInt) k d := fun e he hHe => rk_inj (by omega) (by omega) hHe hm (by omega)
            generalize hB : rk_bf (sf_H D st ex l) (fun i => (sf_R D st bp l i).toInt) k d = b at hbl hinj
            refine br_c (fun hc => ?_) (fun hc => ?_)
            · have hlt : b < lim := (nI_ltI (by omega) (by omega)).mp hc
              have hvb : vp_in (nI b) 10 := vp_in_nI (by omega) (by omega)
              refine ⟨hv, hvb, ?_⟩
              rw [nI_clamp (n := b) (by omega), ed]
              refine nm_e ⟨hv, hvb, nm_e (nm_r (nI_1 _) (I _ _ (by omega) (fun e he hHe hbe => ?_)))⟩
              rcases Nat.lt_or_ge e d with a | a
              · have hne := hinj e a hHe
                rw [pk_un hne, pk_uLn hne]
                exact hK e a hHe hbe
              · obtain rfl : e = d := by omega
                rw [hB, pk_us, pk_uLs]
                exact ⟨rfl, hHS e (by omega) hm⟩
            · have hlt : ¬ b < lim := fun z => hc ((nI_ltI (by omega) (by omega)).mpr z)
              refine nm_r (nI_1 _) (I _ _ (by omega) (fun e he hHe hbe => ?_))
              rcases Nat.lt_or_ge e d with a | a
              · exact hK e a hHe hbe
              · obtain rfl : e = d := by omega
                exact absurd hbe (by rw [hB]; exact hlt)
          | succ q ihq =>
            intro k hk
            have ek : (nI k).toNatClampNeg = k := nI_clamp (by omega)
            have J := ihq (k + 1) (by omega)
            refine br_f (nI_ge (by omega) (by omega)) ⟨vp_in_nI (by omega) (by omega), ?_⟩
            rw [ek, hIH k (by omega)]
            cases hmk : sf_H D st ex l k with
            | false =>
              rw [sg_cn_f (by show ¬ (sf_H D st ex l k && rk_pr (fun i => (sf_R D st bp l i).toInt) k d) = true; rw [hmk, Bool.false_and]; decide)] at J
              exact br_t rfl (nm_r (nI_1 _) J)
            | true =>
              refine br_f (by decide) ?_
              refine yl_prec (sco := sf_S D st l) (by omega) (by omega) hD (fun e => by have := sf_S_le D (show st ≤ 32 by omega) l e; omega) (hHS k (by omega) hmk) (hHS d (by omega) hm) ?_
              show (sg_B (rk_pr (fun i => (sf_R D st bp l i).toInt) k d) = 0 → _) ∧ (¬ sg_B (rk_pr (fun i => (sf_R D st bp l i).toInt) k d) = 0 → _)
              cases hpr : rk_pr (fun i => (sf_R D st bp l i).toInt) k d with
              | false =>
                rw [sg_cn_f (by show ¬ (sf_H D st ex l k && rk_pr (fun i => (sf_R D st bp l i).toInt) k d) = true; rw [hpr, Bool.and_false]; decide)] at J
                exact br_t rfl (nm_r (nI_1 _) J)
              | true =>
                rw [sg_cn_t (by show (sf_H D st ex l k && rk_pr (fun i => (sf_R D st bp l i).toInt) k d) = true; rw [hpr, hmk]; rfl)] at J
                exact br_f (by decide) (nm_r (nI_1 _) (nm_r (nI_1 _) J))
        exact l211 dc 0 (Nat.zero_add _)
  -- the first round
  have first : ∀ m d (KD SP WT IS MA SH IH : Nat → Int32) (SC HS : Nat → Int64), d + m = dc → (∀ e, e < d → IH e = sg_B (sf_H D st ex l e)) → (∀ e, e < d → sf_H D st ex l e = true → HS e = lN (sf_S D st l e)) → (∀ k, k < 10 → SH k = nI (sg_cn (sf_C D st ex l k) d)) →
      wY_look_30 post ex (nI lim) bp (m + 1) (nI (sg_cn (sf_H D st ex l) d)) (nI d) (nI dc) gsg gnn gpt gkp D.1 D.2.1 D.2.2.1 D.2.2.2.1 D.2.2.2.2.1 D.2.2.2.2.2 bV bPT bTK bLN KD SP WT IS MA SC bNN bNC bKN bKS SH IH HS := by
    intro m
    induction m with
    | zero =>
      intro d KD SP WT IS MA SH IH SC HS h hIH hHS hSH
      obtain rfl : d = dc := by omega
      have go : ∀ kp : Int32, kp = nI (min (sg_cn (sf_H D st ex l) d) lim) → _ := fun kp hkp => second kp KD SP WT IS MA SH IH SC HS hkp hIH hHS hSH d 0 bKN bKS (Nat.zero_add _) (fun e he => absurd he (Nat.not_lt_zero e))
      refine br_t (nI_le (Nat.le_refl _) (by omega)) (br_c (fun hc => ?_) (fun hc => ?_))
      · have hle := (nI_leI (by omega) (by omega)).mp hc
        exact Exists.intro _ (go (nI lim) (by rw [Nat.min_eq_right hle]))
      · have hle : ¬ lim ≤ sg_cn (sf_H D st ex l) d := fun z => hc ((nI_leI (by omega) (by omega)).mpr z)
        exact Exists.intro _ (go _ (by rw [Nat.min_eq_left (by omega)]))
    | succ m ih =>
      intro d KD SP WT IS MA SH IH SC HS h hIH hHS hSH
      have ed : (nI d).toNatClampNeg = d := nI_clamp (by omega)
      have hv : vp_in (nI d) 32 := vp_in_nI (by omega) (by omega)
      have I := ih (d + 1)
      have ext : ∀ (x : Bool) (e : Nat), sf_H D st ex l d = x → e < d + 1 → upd IH d (sg_B x) e = sg_B (sf_H D st ex l e) := by
        intro x e hx he
        by_cases hed : e = d
        · subst hed; rw [pk_us, hx]
        · rw [pk_un hed]; exact hIH e (by omega)
      have no : sf_H D st ex l d = false → ∀ IH' : Nat → Int32, (∀ e, e < d + 1 → IH' e = sg_B (sf_H D st ex l e)) → ∀ (KD SP WT IS MA : Nat → Int32) (SC HS' : Nat → Int64), (∀ e, e < d → HS' e = HS e) →
          wY_look_30 post ex (nI lim) bp (m + 1) (nI (sg_cn (sf_H D st ex l) d)) (nI (d + 1)) (nI dc) gsg gnn gpt gkp D.1 D.2.1 D.2.2.1 D.2.2.2.1 D.2.2.2.2.1 D.2.2.2.2.2 bV bPT bTK bLN KD SP WT IS MA SC bNN bNC bKN bKS SH IH' HS' := by
        intro hf IH' hIH' KD SP WT IS MA SC HS' hHS'
        have I' := I KD SP WT IS MA SH IH' SC HS' (by omega) hIH' (fun e he hHe => by
          rcases Nat.lt_or_ge e d with a | a
          · rw [hHS' e a]; exact hHS e a hHe
          · obtain rfl : e = d := by omega
            rw [hf] at hHe
            exact absurd hHe (by decide)) (fun k hk => by
          rw [sg_cn_f (by unfold sf_C; rw [hf, Bool.false_and]; decide)]
          exact hSH k hk)
        rw [sg_cn_f (by rw [hf]; decide)] at I'
        exact I'
      have f75 : sf_H D st ex l d = false → wY_look_75 post (wY_look_30 post ex (nI lim) bp (m + 1)) ex (nI lim) bp (nI (sg_cn (sf_H D st ex l) d)) (nI d) (nI d) (nI dc) gsg gnn gpt gkp D.1 D.2.1 D.2.2.1 D.2.2.2.1 D.2.2.2.2.1 D.2.2.2.2.2 bV bPT bTK bLN KD SP WT IS MA SC bNN bNC bKN bKS SH IH HS := by
        intro hf
        refine ⟨hv, ?_⟩
        rw [ed]
        refine nm_r (by rw [sx_nb (Or.inl rfl)]) ⟨hv, br_t pk_us (nm_r (nI_1 _) (no hf _ (fun e he => ext false e hf he) KD SP WT IS MA SC HS (fun _ _ => rfl)))⟩
      refine br_f (nI_ge (by omega) (by omega)) ⟨hv, ?_⟩
      rw [ed]
      refine br_c (fun hc1 => f75 (sf_H_f (fun z => (sd_P_lt hP (show d < dc by omega)).mp hc1 z.1))) (fun hc1 => ⟨hv, br_c (fun hc2 => br_c (fun hc3 => f75 (sf_H_f (fun z => z.2.2 hc3))) (fun hc3 => ?_)) (fun hc2 => f75 (sf_H_f (fun z => hc2 z.2.1)))⟩)
      have hdst : d < st := by
        rcases Nat.lt_or_ge d st with a | a
        · exact a
        · exact absurd ((sd_P_lt hP (show d < dc by omega)).mpr (by omega)) hc1
      have eH := sf_H_t (l := l) hdst hc2 hc3
      refine ⟨hv, ?_⟩
      rw [ed]
      refine nm_r (by rw [sx_nb (Or.inr rfl)]) ⟨hv, br_f (by rw [pk_us]; decide) ?_⟩
      refine yk_work (li := 5) (l := l) (pr := sd_n D.2.1 d) (by omega) hP hL (sd_ok_P hD d).2 (sd_ok_P hD d).1 (by omega) hl hln hH htk hb ?_
      intro KD SP WT IS MA SC hM hS
      have hM' : MA 0 = sg_B (sf_M D st l d) := hM
      have hS' : SC 0 = lN (sf_S D st l d) := hS
      rw [← eH] at hM'
      refine ⟨hv, ?_⟩
      refine nm_r (show upd (upd IH d 1) d (vp_nar .boolean (MA 0)) = upd IH d (sg_B (sf_H D st ex l d)) by rw [hM', sx_nb (sg_B_01 _), sy_uu]) ⟨hv, nm_r (show vp_updL HS d (SC 0) = vp_updL HS d (lN (sf_S D st l d)) by rw [hS']) ⟨hv, ?_⟩⟩
      rw [pk_us]
      cases hm : sf_H D st ex l d with
      | false => exact br_t rfl (nm_r (nI_1 _) (no hm _ (fun e he => ext false e hm he) KD SP WT IS MA SC _ (fun e he => pk_uLn (by omega))))
      | true =>
        obtain ⟨ep, hpr⟩ := sd_ok_P hD d
        have e10 : D.2.1 d / 10 = nI (sd_n D.2.1 d / 10) := by
          rw [ep]
          show nI (sd_n D.2.1 d) / nI 10 = _
          rw [pk_div (by omega) (by omega) (by omega)]
        have hs' : ∀ k, k < 10 → upd SH (sd_n D.2.1 d / 10) (SH (sd_n D.2.1 d / 10) + 1) k = nI (sg_cn (sf_C D st ex l k) (d + 1)) := by
          intro k hk
          by_cases e : k = sd_n D.2.1 d / 10
          · subst e
            rw [pk_us, hSH _ hk, nI_1, sg_cn_t (by unfold sf_C; rw [hm, decide_eq_true rfl]; rfl)]
          · rw [pk_un e, hSH k hk, sg_cn_f (by unfold sf_C; rw [decide_eq_false (fun z => e z.symm), Bool.and_false]; decide)]
        have I' := I KD SP WT IS MA _ _ SC (vp_updL HS d (lN (sf_S D st l d))) (by omega) (fun e he => ext true e hm he) (fun e he hHe => by
          by_cases hed : e = d
          · subst hed; rw [pk_uLs]
          · rw [pk_uLn hed]; exact hHS e (by omega) hHe) hs'
        rw [sg_cn_t hm] at I'
        refine br_f (by decide) (nm_r (nI_1 _) ⟨hv, by decide, ?_⟩)
        rw [e10, nI_clamp (by omega)]
        exact ⟨vp_in_nI (by omega) (by omega), vp_in_nI (by omega) (by omega), nm_e (nm_r (nI_1 _) I')⟩
  -- the shares
  have zero : ∀ m i, i + m = 10 → wY_look_6 post ex (nI lim) bp 0 (nI dc) gsg gnn gpt gkp (m + 1) (nI i) D.1 D.2.1 D.2.2.1 D.2.2.2.1 D.2.2.2.2.1 D.2.2.2.2.2 bV bPT bTK bLN bKD bSP bWT bIS bMA bSC bNN bNC bKN bKS (sd_cy bSH 0 (fun _ => 0) 0 i) bIH bHS := by
    intro m
    induction m with
    | zero =>
      intro i h
      obtain rfl : i = 10 := by omega
      refine br_t (nI_le (b := 10) (Nat.le_refl _) (by decide)) (Exists.intro (dc + 1) ?_)
      exact first dc 0 bKD bSP bWT bIS bMA _ bIH bSC bHS (Nat.zero_add _) (fun e he => absurd he (Nat.not_lt_zero e)) (fun e he => absurd he (Nat.not_lt_zero e)) (fun k hk => by
        have := sd_cy_in (a := bSH) (b := 0) (s := fun _ => 0) (c := 0) (m := 10) (i := k) hk
        rw [Nat.zero_add] at this
        rw [this]; rfl)
    | succ m ih =>
      intro i h
      refine br_f (nI_ge (b := 10) (by omega) (by decide)) ⟨vp_in_nI (by omega) (by omega), ?_⟩
      rw [nI_clamp (by omega)]
      have e3 := sd_cy_s bSH 0 (fun _ => 0) 0 i
      rw [Nat.zero_add] at e3
      exact nm_r e3 (nm_r (nI_1 _) (ih (i + 1) (by omega)))
  have k0 := zero 10 0 rfl
  rw [sd_cy_0] at k0
  exact Exists.intro 11 k0
end
end
section
def sl_up (p : Nat → Bool) : Nat → List Nat
  | 0 => []
  | m + 1 => if p (7 - m) = true then (7 - m) :: sl_up p m else sl_up p m
theorem sl_up_r (p : Nat → Bool) : ∀ m, m ≤ 8 → sl_up p m = (List.range' (8 - m) m).filter p
  | 0, _ => rfl
  | m + 1, h => by
    have e : 8 - (m + 1) + 1 = 8 - m := by omega
    have e2 : 7 - m = 8 - (m + 1) := by omega
    rw [List.range'_succ, e, List.filter_cons, ← sl_up_r p m (by omega), ← e2]
    rfl
theorem sl_up_8 (D : sd_D) (d : Nat) : sl_up (fun w => sd_hw D.2.2.2.1 D.2.2.1 w d) 8 = sl_ws D d 8 := by
  rw [sl_up_r _ 8 (Nat.le_refl _)]
  unfold sl_ws
  rw [List.range_eq_range']
theorem sl_up_lt (p : Nat → Bool) : ∀ m w, w ∈ sl_up p m → w < 8
  | 0, w, h => absurd h (by simp [sl_up])
  | m + 1, w, h => by
    have h' : w ∈ (if p (7 - m) = true then (7 - m) :: sl_up p m else sl_up p m) := h
    split at h'
    · rcases List.mem_cons.mp h' with h1 | h1
      · omega
      · exact sl_up_lt p m w h1
    · exact sl_up_lt p m w h'
theorem sl_up_len (p : Nat → Bool) : ∀ m, (sl_up p m).length ≤ m
  | 0 => Nat.le_refl _
  | m + 1 => by
    have := sl_up_len p m
    show (if p (7 - m) = true then (7 - m) :: sl_up p m else sl_up p m).length ≤ m + 1
    split
    · rw [List.length_cons]; omega
    · omega
def sl_sh (a : Nat → Int32) (lo hi : Nat) : Nat → Int32 := fun j => if lo ≤ j ∧ j ≤ hi then a (j - 2) else a j
theorem sl_sh_0 (a : Nat → Int32) {lo hi : Nat} (h : hi < lo) : sl_sh a lo hi = a := by
  funext j
  unfold sl_sh
  rw [if_neg (by omega)]
theorem sl_sh_s (a : Nat → Int32) {lo hi : Nat} (h : lo ≤ hi) (h2 : 2 ≤ lo) : upd (sl_sh a (lo + 1) hi) lo (sl_sh a (lo + 1) hi (lo - 2)) = sl_sh a lo hi := by
  funext j
  unfold upd
  by_cases e : j = lo
  · subst e
    rw [if_pos rfl]
    unfold sl_sh
    rw [if_neg (by omega), if_pos (by omega)]
  · rw [if_neg e]
    unfold sl_sh
    by_cases h3 : lo + 1 ≤ j ∧ j ≤ hi
    · rw [if_pos h3, if_pos (by omega)]
    · rw [if_neg h3, if_neg (by omega)]
theorem sr_H_cons {a : Nat → Int32} {b t : Nat} {q : List Nat} (h1 : a b = nI t) (h : sr_H a (b + 1) q) : sr_H a b (t :: q) := by
  intro i hi
  cases i with
  | zero => exact h1
  | succ i =>
    have hi' : i + 1 < q.length + 1 := hi
    have := h i (by omega)
    rw [show b + (i + 1) = b + 1 + i by omega, this]; rfl
theorem sr_H_fr {a a' : Nat → Int32} {b c : Nat} {q : List Nat} (h : sr_H a b q) (hf : ∀ i, i < q.length → a' (c + i) = a (b + i)) : sr_H a' c q := fun i hi => by rw [hf i hi]; exact h i hi
section
variable {gdc gsg gnn gpt gkp : Int32} {bN bP bL bT bS bD bV bPT bTK bLN bKD bSP bWT bIS bMA bNN bNC bKN bSH bIH : Nat → Int32} {bSC bKS bHS : Nat → Int64}
theorem yx_move {li n : Nat} (hli : 1 ≤ li) (hl6 : li < 6) (hn : n ≤ 12) (hln : bLN 0 = nI n) {post : SY → Prop} (hp : post (gdc, gsg, gnn, gpt, gkp, bN, bP, bL, bT, bS, bD, bV, bPT, sd_cy bTK (16 * li) bTK 0 n, upd (upd bLN li (nI n)) 0 0, bKD, bSP, bWT, bIS, bMA, bSC, bNN, bNC, bKN, bKS, bSH, bIH, bHS)) : wpY_move post (gdc, gsg, gnn, gpt, gkp, bN, bP, bL, bT, bS, bD, bV, bPT, bTK, bLN, bKD, bSP, bWT, bIS, bMA, bSC, bNN, bNC, bKN, bKS, bSH, bIH, bHS) (nI li) := by
  have key : ∀ m i, i + m = n → wY_move_2 post (nI li) gdc gsg gnn gpt gkp (m + 1) (nI i) bN bP bL bT bS bD bV bPT (sd_cy bTK (16 * li) bTK 0 i) bLN bKD bSP bWT bIS bMA bSC bNN bNC bKN bKS bSH bIH bHS := by
    intro m
    induction m with
    | zero =>
      intro i h
      obtain rfl : i = n := by omega
      show (bLN 0 ≤ nI i → _) ∧ (¬ bLN 0 ≤ nI i → _)
      rw [hln]
      refine br_t (nI_le (Nat.le_refl _) (by omega)) ⟨vp_in_nI hl6 (by omega), ?_⟩
      rw [nI_clamp (by omega)]
      exact nm_e (nm_e hp)
    | succ m ih =>
      intro i h
      have e3 := sd_cy_s bTK (16 * li) bTK 0 i
      rw [Nat.zero_add] at e3
      have e4 : sd_cy bTK (16 * li) bTK 0 i i = bTK i := sd_cy_out (by omega)
      show (bLN 0 ≤ nI i → _) ∧ (¬ bLN 0 ≤ nI i → _)
      rw [hln]
      refine br_f (nI_ge (by omega) (by omega)) ?_
      rw [sy_16, nI_add, nI_clamp (n := i) (by omega), nI_clamp (n := 16 * li + i) (by omega), e4]
      exact ⟨vp_in_nI (by omega) (by omega), vp_in_nI (by omega) (by omega), nm_r e3 (nm_r (nI_1 _) (ih (i + 1) (by omega)))⟩
  have k0 := key n 0 (Nat.zero_add _)
  rw [sd_cy_0] at k0
  exact Exists.intro (n + 1) k0
theorem yx_expr {q : List Nat} {li : Nat} (hl6 : li < 6) (h12 : q.length ≤ 12) (htk : sv_tks q) (hln : bLN li = nI q.length) (hH : sr_H bTK (16 * li) q) {post : Int32 → SY → Prop}
    (h1 : (∃ v, sq_b q = some [v]) → ∀ K : Nat → Int32, post 1 (gdc, gsg, gnn, gpt, gkp, bN, bP, bL, bT, bS, bD, bV, bPT, bTK, bLN, K, bSP, bWT, bIS, bMA, bSC, bNN, bNC, bKN, bKS, bSH, bIH, bHS)) (h0 : ¬ (∃ v, sq_b q = some [v]) → ∀ K : Nat → Int32, post 0 (gdc, gsg, gnn, gpt, gkp, bN, bP, bL, bT, bS, bD, bV, bPT, bTK, bLN, K, bSP, bWT, bIS, bMA, bSC, bNN, bNC, bKN, bKS, bSH, bIH, bHS)) :
    wpY_isExpression post (gdc, gsg, gnn, gpt, gkp, bN, bP, bL, bT, bS, bD, bV, bPT, bTK, bLN, bKD, bSP, bWT, bIS, bMA, bSC, bNN, bNC, bKN, bKS, bSH, bIH, bHS) (nI li) := by
  have key : ∀ m i (K : Nat → Int32) (due : List Bool), i + m = q.length → sx_K K due → due.length ≤ i + 1 → sq_f due (q.drop i) = sq_f [false] q →
      wY_isExpression_14 post (nI li) gdc gsg gnn gpt gkp (m + 1) (nI due.length) (nI (16 * li + i)) bN bP bL bT bS bD bV bPT bTK bLN K bSP bWT bIS bMA bSC bNN bNC bKN bKS bSH bIH bHS := by
    intro m
    induction m with
    | zero =>
      intro i K due h hK hle hf
      obtain rfl : i = q.length := by omega
      rw [List.drop_length] at hf
      refine ⟨vp_in_nI hl6 (by omega), ?_⟩
      rw [nI_clamp (n := li) (by omega), hln, sy_16, nI_add]
      refine br_t (nI_le (Nat.le_refl _) (by omega)) ?_
      cases due with
      | nil => exact br_t rfl (h1 ((sq_top q).mp (by rw [← hf]; rfl)) K)
      | cons k due =>
        rw [List.length_cons] at hle ⊢
        refine br_f (nI_ne0 (by omega) (by omega)) (h0 (fun z => ?_) K)
        have := (sq_top q).mpr z
        rw [← hf] at this
        exact absurd this (by simp [sq_f])
    | succ m ih =>
      intro i K due h hK hle hf
      have hdr := sr_drop (l := q) (i := i) (by omega)
      have hQ := hH i (by omega)
      have ht := htk _ (sr_getD_mem (l := q) (i := i) (by omega))
      rw [hdr] at hf
      generalize q.getD i 0 = t at hQ ht hf
      have ht2 : t < 2 ^ 31 := by unfold sv_tk at ht; omega
      refine ⟨vp_in_nI hl6 (by omega), ?_⟩
      rw [nI_clamp (n := li) (by omega), hln, sy_16, nI_add]
      refine br_f (nI_ge (by omega) (by omega)) ?_
      have bad : sq_f [false] q = false → post 0 (gdc, gsg, gnn, gpt, gkp, bN, bP, bL, bT, bS, bD, bV, bPT, bTK, bLN, K, bSP, bWT, bIS, bMA, bSC, bNN, bNC, bKN, bKS, bSH, bIH, bHS) := by
        intro hz
        refine h0 (fun z => ?_) K
        have := (sq_top q).mpr z
        rw [hz] at this
        exact absurd this (by decide)
      match due, hK, hle, hf with
      | [], hK, hle, hf => exact br_t rfl (bad hf.symm)
      | k :: due, hK, hle, hf =>
        rw [List.length_cons] at hle ⊢
        obtain ⟨k1, k2⟩ := hK
        refine br_f (nI_ne0 (by omega) (by omega)) (nm_r (pk_m1 _) ⟨vp_in_nI (by omega) (by omega), ?_⟩)
        rw [nI_clamp (n := due.length) (by omega), nI_clamp (n := 16 * li + i) (by omega)]
        refine nm_r k1 ⟨vp_in_nI (by omega) (by omega), nm_r hQ ?_⟩
        have hf' : (if k = true ∧ sq_sp t = false then false else sq_f (if 8 ≤ t ∧ t ≤ 12 then sq_sp t :: sq_sp t :: due else due) (q.drop (i + 1))) = sq_f [false] q := hf
        have l98 : ∀ (z : Bool), sq_sp t = z → sq_f (if 8 ≤ t ∧ t ≤ 12 then z :: z :: due else due) (q.drop (i + 1)) = sq_f [false] q →
            ∃ n98 : Nat, wY_isExpression_98 post (wY_isExpression_14 post (nI li) gdc gsg gnn gpt gkp (m + 1)) (nI li) (nI (16 * li + i)) (nI t) (sg_B z) gdc gsg gnn gpt gkp n98 (nI due.length) 0 bN bP bL bT bS bD bV bPT bTK bLN K bSP bWT bIS bMA bSC bNN bNC bKN bKS bSH bIH bHS := by
          intro z hz hq
          by_cases hj : 8 ≤ t ∧ t ≤ 12
          · rw [if_pos hj] at hq
            have j1 : ¬ nI t < 8 := nI_nlt (b := 8) hj.1 (by omega)
            have j2 : ¬ 12 < nI t := nI_nlt (a := 12) hj.2 (by decide)
            have e : (due.length + 1 + 1) = (z :: z :: due).length := rfl
            have J := ih (i + 1) (upd (upd K due.length (sg_B z)) (due.length + 1) (sg_B z)) (z :: z :: due) (by omega) ⟨pk_us, by rw [pk_un (by omega)]; exact pk_us, sx_K_fr (fun p hp => by rw [pk_un (by omega), pk_un (by omega)]) k2⟩ (by rw [← e]; omega) hq
            have v1 : vp_in (nI due.length) 30 := vp_in_nI (by omega) (by omega)
            have v2 : vp_in (nI (due.length + 1)) 30 := vp_in_nI (by omega) (by omega)
            have c1 : (nI due.length).toNatClampNeg = due.length := nI_clamp (by omega)
            have c2 : (nI (due.length + 1)).toNatClampNeg = due.length + 1 := nI_clamp (by omega)
            refine ⟨3, br_f (by decide) (br_f j1 (br_f j2 (nm_r (nI_1 _) ?_)))⟩
            rw [c1]
            cases z with
            | false =>
              refine br_t rfl ⟨v1, nm_e (nm_r (nI_1 0) (br_f (by decide) (br_f j1 (br_f j2 (nm_r (nI_1 _) (br_t rfl ⟨v2, nm_r ?_ (nm_r (nI_1 1) (br_t (by decide) (nm_r (nI_1 _) J)))⟩))))))⟩
              rw [c2]; rfl
            | true =>
              refine br_f (by decide) ⟨v1, nm_e (nm_r (nI_1 0) (br_f (by decide) (br_f j1 (br_f j2 (nm_r (nI_1 _) (br_f (by decide) ⟨v2, nm_r ?_ (nm_r (nI_1 1) (br_t (by decide) (nm_r (nI_1 _) J)))⟩))))))⟩
              rw [c2]; rfl
          · rw [if_neg hj] at hq
            have J := ih (i + 1) K due (by omega) k2 (by omega) hq
            refine ⟨1, br_f (by decide) ?_⟩
            rcases Nat.lt_or_ge t 8 with h8 | h8
            · exact br_t (nI_lt (b := 8) h8 (by decide)) (nm_r (nI_1 _) J)
            · exact br_f (nI_nlt (b := 8) h8 ht2) (br_t (nI_lt (a := 12) (by omega) ht2) (nm_r (nI_1 _) J))
        have f80 : ∀ (z : Bool), sq_sp t = z → wY_isExpression_80 post (wY_isExpression_14 post (nI li) gdc gsg gnn gpt gkp (m + 1)) (nI li) (nI due.length) (nI (16 * li + i)) (sg_B k) (nI t) (sg_B z) gdc gsg gnn gpt gkp bN bP bL bT bS bD bV bPT bTK bLN K bSP bWT bIS bMA bSC bNN bNC bKN bKS bSH bIH bHS := by
          intro z hz
          rw [hz] at hf'
          cases k with
          | true =>
            refine br_t rfl ?_
            cases z with
            | false =>
              rw [if_pos ⟨rfl, rfl⟩] at hf'
              exact br_t rfl (bad hf'.symm)
            | true =>
              rw [if_neg (fun zz => absurd zz.2 (by decide))] at hf'
              exact br_f (by decide) (l98 true hz hf')
          | false =>
            rw [if_neg (fun zz => absurd zz.1 (by decide))] at hf'
            exact br_f (by decide) (l98 z hz hf')
        by_cases h8 : t < 8
        · exact br_t (nI_lt (b := 8) h8 (by decide)) (f80 true (decide_eq_true (Or.inl h8)))
        · refine br_f (nI_nlt (b := 8) (by omega) ht2) ?_
          by_cases h11 : t = 11
          · exact br_t (by rw [h11]; rfl) (f80 true (decide_eq_true (by omega)))
          · refine br_f (fun z => h11 ((nI_eq (b := 11) ht2 (by decide)).mp z)) ?_
            by_cases h12' : t = 12
            · exact br_t (by rw [h12']; rfl) (f80 true (decide_eq_true (by omega)))
            · exact br_f (fun z => h12' ((nI_eq (b := 12) ht2 (by decide)).mp z)) (f80 false (decide_eq_false (by omega)))
  have k0 := key q.length 0 (upd bKD 0 0) [false] (Nat.zero_add _) ⟨pk_us, trivial⟩ (Nat.le_refl _) (by rw [List.drop_zero])
  exact nm_e (nm_r (sy_16 li) (Exists.intro (q.length + 1) k0))
theorem yx_like {D : sd_D} {dc st lim d : Nat} (hd : d < dc) (hD : sd_ok D) (hT : sd_tx D.2.2.2.1) (hn : 0 < sd_n D.2.2.1 d) (hP : sd_P D.2.2.2.2.1 st dc) (hlim : lim ≤ 10) {post : Int32 → SY → Prop}
    (hp : ∀ (TK KD SP WT IS MA KN SH IH : Nat → Int32) (SC KS HS : Nat → Int64), (∀ j, j < 80 → TK j = bTK j) →
      (∀ e, e < dc → sf_H D st (nI d) (sv_ly (sl_ws D d 8)) e = true → rk_bf (sf_H D st (nI d) (sv_ly (sl_ws D d 8))) (fun i => (sf_R D st 0 (sv_ly (sl_ws D d 8)) i).toInt) dc e < lim → KN (rk_bf (sf_H D st (nI d) (sv_ly (sl_ws D d 8))) (fun i => (sf_R D st 0 (sv_ly (sl_ws D d 8)) i).toInt) dc e) = D.1 e ∧ KS (rk_bf (sf_H D st (nI d) (sv_ly (sl_ws D d 8))) (fun i => (sf_R D st 0 (sv_ly (sl_ws D d 8)) i).toInt) dc e) = lN (sf_S D st (sv_ly (sl_ws D d 8)) e)) →
      (∀ k, k < 10 → SH k = nI (sg_cn (sf_C D st (nI d) (sv_ly (sl_ws D d 8)) k) dc)) →
      post (nI (sg_cn (sf_H D st (nI d) (sv_ly (sl_ws D d 8))) dc)) (nI dc, gsg, gnn, gpt, nI (min (sg_cn (sf_H D st (nI d) (sv_ly (sl_ws D d 8))) dc) lim), D.1, D.2.1, D.2.2.1, D.2.2.2.1, D.2.2.2.2.1, D.2.2.2.2.2, bV, bPT, TK, upd bLN 5 (nI (sv_ly (sl_ws D d 8)).length), KD, SP, WT, IS, MA, SC, bNN, bNC, KN, KS, SH, IH, HS)) :
    ∃ n42 : Nat, wY_like_42 post (nI lim) (nI d) (nI dc) gsg gnn gpt gkp n42 0 8 7 D.1 D.2.1 D.2.2.1 D.2.2.2.1 D.2.2.2.2.1 D.2.2.2.2.2 bV bPT bTK bLN bKD bSP bWT bIS bMA bSC bNN bNC bKN bKS bSH bIH bHS := by
  have hL := sd_ok_L hD
  have h32 := hP.2.1
  have hne := sl_ws_ne hT hn
  have h8lt : ∀ w, w ∈ sl_ws D d 8 → w < 8 := fun w hw => sl_ws_lt hw
  have hup8 := sl_up_8 D d
  generalize hq : (fun w => sd_hw D.2.2.2.1 D.2.2.1 w d) = p at hup8
  have key : ∀ j m (TK : Nat → Int32) (x5 : Int32), m + j = 8 → (∀ i, i < 80 → TK i = bTK i) → sr_H TK 80 (sv_ly (sl_up p m)) → (sl_up p m = [] → x5 = 8) → (sl_up p m ≠ [] → ∃ n, n < 8 ∧ x5 = nI n) →
      wY_like_42 post (nI lim) (nI d) (nI dc) gsg gnn gpt gkp (j + 1) (nI (sv_ly (sl_up p m)).length) x5 (nI j - 1) D.1 D.2.1 D.2.2.1 D.2.2.2.1 D.2.2.2.2.1 D.2.2.2.2.2 bV bPT TK bLN bKD bSP bWT bIS bMA bSC bNN bNC bKN bKS bSH bIH bHS := by
    intro j
    induction j with
    | zero =>
      intro m TK x5 hm hlow hH _ _
      obtain rfl : m = 8 := by omega
      rw [hup8] at hH ⊢
      have hlen := sv_ly_len (sl_ws D d 8) hne
      have hl8 : (sl_ws D d 8).length ≤ 8 := by rw [← hup8]; exact sl_up_len p 8
      obtain ⟨kk, hkk⟩ := sv_ly_b (sl_ws D d 8) hne h8lt
      refine br_t (by decide) (nm_e (yl_look (l := sv_ly (sl_ws D d 8)) hD hP (by omega) pk_us hH (sv_ly_tk _ h8lt) hkk hlim ?_))
      intro KD SP WT IS MA KN SH IH SC KS HS hK hS
      exact hp TK KD SP WT IS MA KN SH IH SC KS HS hlow hK hS
    | succ j ih =>
      intro m TK x5 hm hlow hH hx8 hx
      have hmj : 7 - m = j := by omega
      have I := ih (m + 1)
      have es : sl_up p (m + 1) = if p j = true then j :: sl_up p m else sl_up p m := by
        show (if p (7 - m) = true then (7 - m) :: sl_up p m else sl_up p m) = _
        rw [hmj]
      rw [es] at I
      have hpj : p j = sd_hs D.2.2.2.1 (12 * d) (nI j) (sd_n D.2.2.1 d) := by rw [← hq]; rfl
      have hul := sl_up_len p m
      have em : nI j + (-1) = nI j - 1 := (Int32.sub_eq_add_neg _ _).symm
      rw [nI_pred]
      refine br_f (nI_pos (by omega)) ?_
      refine yr_has (d := d) (len := sd_n D.2.2.1 d) (by omega) (hL d).1 (hL d).2 ?_
      rw [← hpj]
      cases hh : p j with
      | false =>
        rw [hh, if_neg (by decide)] at I
        exact br_t rfl (nm_r em (I TK x5 (by omega) hlow hH hx8 hx))
      | true =>
        rw [hh, if_pos rfl] at I
        refine br_f (by decide) (nm_r (nI_1 _) ?_)
        cases hU : sl_up p m with
        | nil =>
          rw [hU] at I
          have e8 := hx8 hU
          have L0 : (sv_ly ([] : List Nat)).length = 0 := rfl
          rw [L0]
          refine ⟨1, br_f (by decide) (br_t (nI_le (a := 0) (b := 0) (Nat.le_refl _) (by decide)) ?_)⟩
          have c8 : (8 : Int32) ≤ x5 := by rw [e8]; decide
          have I' := I (upd TK 80 (nI j)) (nI j) (by omega) (fun i hi => by rw [pk_un (by omega)]; exact hlow i hi) (sr_H_cons pk_us (sr_H_0 _ _)) (fun z => absurd z (by simp)) (fun _ => ⟨j, by omega, rfl⟩)
          exact br_t c8 ⟨by exact vp_in_nI (n := 80) (by omega) (by omega), nm_r (show upd TK (80 : Int32).toNatClampNeg (nI j) = upd TK 80 (nI j) from rfl) (br_t c8 (br_t c8 (nm_r (show nI 0 + 1 = nI 1 from nI_1 0) (nm_r em I'))))⟩
        | cons v us =>
          rw [hU] at I hH
          obtain ⟨n5, hn5, e5⟩ := hx (by rw [hU]; simp)
          have c8 : ¬ (8 : Int32) ≤ x5 := by rw [e5]; exact nI_ge (b := 8) hn5 (by decide)
          rw [hU, List.length_cons] at hul
          have hlen := sv_ly_len (v :: us) (by simp)
          rw [List.length_cons] at hlen
          generalize hln : (sv_ly (v :: us)).length = n at hlen
          have hnb : n ≤ 13 := by omega
          have l66 : ∀ k, k ≤ n + 1 → wY_like_66 post (wY_like_42 post (nI lim) (nI d) (nI dc) gsg gnn gpt gkp (j + 1)) (nI lim) (nI d) (nI n) x5 (nI j) (nI dc) gsg gnn gpt gkp (k + 1) (nI k) D.1 D.2.1 D.2.2.1 D.2.2.2.1 D.2.2.2.2.1 D.2.2.2.2.2 bV bPT (sl_sh TK (80 + k + 2) (82 + n)) bLN bKD bSP bWT bIS bMA bSC bNN bNC bKN bKS bSH bIH bHS := by
            intro k
            induction k with
            | zero =>
              intro _
              refine br_t (nI_le (a := 0) (b := 0) (Nat.le_refl _) (by decide)) (br_f c8 ?_)
              have I' := I (upd (upd (sl_sh TK 82 (82 + n)) 80 9) 81 (nI j)) (nI j) (by omega) (fun i hi => by
                rw [pk_un (by omega), pk_un (by omega)]
                unfold sl_sh
                rw [if_neg (by omega)]
                exact hlow i hi) (by
                show sr_H _ 80 (9 :: j :: sv_ly (v :: us))
                refine sr_H_cons (by rw [pk_un (by omega), pk_us]; rfl) (sr_H_cons pk_us (sr_H_fr hH (fun i hi => ?_)))
                rw [pk_un (by omega), pk_un (by omega)]
                unfold sl_sh
                rw [if_pos (by rw [hln] at hi; omega)]
                congr 1; omega) (fun z => absurd z (by simp)) (fun _ => ⟨j, by omega, rfl⟩)
              have e2 : (sv_ly (j :: v :: us)).length = n + 2 := by
                show (sv_ly (v :: us)).length + 1 + 1 = _
                rw [hln]
              rw [e2] at I'
              exact ⟨by exact vp_in_nI (n := 80) (by omega) (by omega), nm_r (show upd (sl_sh TK (80 + 0 + 2) (82 + n)) (80 : Int32).toNatClampNeg 9 = upd (sl_sh TK 82 (82 + n)) 80 9 from rfl) (br_f c8 (nm_e (br_f c8 (nm_r (show nI n + 2 = nI (n + 2) from nI_add n 2) (nm_r em I')))))⟩
            | succ k ihk =>
              intro hk
              have J := ihk (by omega)
              have e1 : 80 + nI (k + 1) - 1 = nI (80 + k) := by
                show nI 80 + nI (k + 1) - 1 = _
                rw [nI_add, show 80 + (k + 1) = 80 + k + 1 by omega, nI_pred]
              have e2 : 80 + nI (k + 1) + 1 = nI (82 + k) := by
                show nI 80 + nI (k + 1) + 1 = _
                rw [nI_add, nI_1]
                exact congrArg nI (by omega)
              have e3 := sl_sh_s TK (lo := 82 + k) (hi := 82 + n) (by omega) (by omega)
              rw [show 82 + k + 1 = 80 + (k + 1) + 2 by omega, show 82 + k - 2 = 80 + k by omega, show sl_sh TK (82 + k) (82 + n) = sl_sh TK (80 + k + 2) (82 + n) by rw [show 82 + k = 80 + k + 2 by omega]] at e3
              refine br_f (nI_nle (by omega) (by omega)) (br_f (nI_nle (by omega) (by omega)) ?_)
              rw [e1, e2, nI_clamp (n := 80 + k) (by omega), nI_clamp (n := 82 + k) (by omega)]
              exact ⟨vp_in_nI (by omega) (by omega), vp_in_nI (by omega) (by omega), nm_r e3 (nm_r (pk_m1 _) J)⟩
          have k66 := l66 (n + 1) (Nat.le_refl _)
          rw [sl_sh_0 TK (by omega)] at k66
          exact Exists.intro (n + 1 + 1) k66
  exact Exists.intro 9 (key 8 0 bTK 8 rfl (fun _ _ => rfl) (sr_H_0 _ _) (fun _ => rfl) (fun z => absurd rfl z))
end
end
section
def sr_D (D : sd_D) (lX lY : Nat → Int32) (dc sg : Nat) : Prop := sd_ok D ∧ sd_tx D.2.2.2.1 ∧ (∃ st, sd_I D.2.2.2.2.1 st dc sg ∧ dc ≤ st + 3) ∧ ∀ j, j < sg → lX j = lY j
def sr_A (k dc m sg pt hc : Nat) (q : List Nat) (W : Nat → List Nat) (D : sd_D) (aV aPT aPQ aHN aHS aSH aWQ aWL aNC bV bTK bLN bKN bSH : Nat → Int32) (bKS : Nat → Int64) : Prop :=
  m ≤ k ∧ pt ≤ 12 ∧ sd_tx aPT ∧ sr_D D aV bV dc sg ∧ sr_Q q aPQ bTK bLN ∧ sr_W W aWQ aWL bTK bLN ∧ sr_N aNC ∧ sr_K hc aHN aHS bKN bKS ∧ sr_S aSH bSH
def i_Rel (k : Nat) (u : SX) (v : SY) : Prop :=
  ∃ (dc m sg pt hc : Nat) (q : List Nat) (W : Nat → List Nat) (D : sd_D) (fsc fsl : Int32)
    (aV aPT aPQ aLQ aI aM aC aW aB aG aHN aHS aHR aSH aWQ aWL aNN aNC bV bTK bLN bKD bSP bWT bIS bMA bKN bSH bIH : Nat → Int32) (bSC bKS bHS : Nat → Int64),
    u = (nI dc, nI m, nI sg, nI pt, nI q.length, fsc, fsl, nI hc, D.1, D.2.1, D.2.2.1, D.2.2.2.1, D.2.2.2.2.1, D.2.2.2.2.2, aV, aPT, aPQ, aLQ, aI, aM, aC, aW, aB, aG, aHN, aHS, aHR, aSH, aWQ, aWL, aNN, aNC) ∧
    v = (nI dc, nI sg, nI m, nI pt, nI hc, D.1, D.2.1, D.2.2.1, D.2.2.2.1, D.2.2.2.2.1, D.2.2.2.2.2, bV, aPT, bTK, bLN, bKD, bSP, bWT, bIS, bMA, bSC, aNN, aNC, bKN, bKS, bSH, bIH, bHS) ∧
    sr_A k dc m sg pt hc q W D aV aPT aPQ aHN aHS aSH aWQ aWL aNC bV bTK bLN bKN bSH bKS
theorem i_up {k : Nat} {u : SX} {v : SY} (h : i_Rel k u v) : i_Rel (k + 3) u v := by
  obtain ⟨dc, m, sg, pt, hc, q, W, D, fsc, fsl, aV, aPT, aPQ, aLQ, aI, aM, aC, aW, aB, aG, aHN, aHS, aHR, aSH, aWQ, aWL, aNN, aNC, bV, bTK, bLN, bKD, bSP, bWT, bIS, bMA, bKN, bSH, bIH, bSC, bKS, bHS, e1, e2, h1, h2⟩ := h
  exact ⟨dc, m, sg, pt, hc, q, W, D, fsc, fsl, aV, aPT, aPQ, aLQ, aI, aM, aC, aW, aB, aG, aHN, aHS, aHR, aSH, aWQ, aWL, aNN, aNC, bV, bTK, bLN, bKD, bSP, bWT, bIS, bMA, bKN, bSH, bIH, bSC, bKS, bHS, e1, e2, by omega, h2⟩
theorem sr_mk {k dc m sg pt hc : Nat} {q : List Nat} {W : Nat → List Nat} {D : sd_D} {fsc fsl : Int32}
    {aV aPT aPQ aLQ aI aM aC aW aB aG aHN aHS aHR aSH aWQ aWL aNN aNC bV bTK bLN bKD bSP bWT bIS bMA bKN bSH bIH : Nat → Int32} {bSC bKS bHS : Nat → Int64}
    (h : sr_A k dc m sg pt hc q W D aV aPT aPQ aHN aHS aSH aWQ aWL aNC bV bTK bLN bKN bSH bKS) :
    i_Rel k (nI dc, nI m, nI sg, nI pt, nI q.length, fsc, fsl, nI hc, D.1, D.2.1, D.2.2.1, D.2.2.2.1, D.2.2.2.2.1, D.2.2.2.2.2, aV, aPT, aPQ, aLQ, aI, aM, aC, aW, aB, aG, aHN, aHS, aHR, aSH, aWQ, aWL, aNN, aNC) (nI dc, nI sg, nI m, nI pt, nI hc, D.1, D.2.1, D.2.2.1, D.2.2.2.1, D.2.2.2.2.1, D.2.2.2.2.2, bV, aPT, bTK, bLN, bKD, bSP, bWT, bIS, bMA, bSC, aNN, aNC, bKN, bKS, bSH, bIH, bHS) :=
  ⟨dc, m, sg, pt, hc, q, W, D, fsc, fsl, aV, aPT, aPQ, aLQ, aI, aM, aC, aW, aB, aG, aHN, aHS, aHR, aSH, aWQ, aWL, aNN, aNC, bV, bTK, bLN, bKD, bSP, bWT, bIS, bMA, bKN, bSH, bIH, bSC, bKS, bHS, rfl, rfl, h⟩
theorem i_vc0 : wpX_init (fun u => wpY_init (fun v => i_Rel 0 u v)) := by
  have z : ∀ j : Nat, (fun _ : Nat => (0 : Int32)) j = nI 0 := fun _ => rfl
  refine ⟨0, 0, 0, 0, 0, [], fun _ => [], (fun _ => 0, fun _ => 0, fun _ => 0, fun _ => 0, fun _ => 0, fun _ => 0), 0, 0, fun _ => 0, fun _ => 0, fun _ => 0, fun _ => 0, fun _ => 0, fun _ => 0, fun _ => 0, fun _ => 0, fun _ => 0, fun _ => 0, fun _ => 0, fun _ => 0, fun _ => 0, fun _ => 0, fun _ => 0, fun _ => 0, fun _ => 0, fun _ => 0, fun _ => 0, fun _ => 0, fun _ => 0, fun _ => 0, fun _ => 0, fun _ => 0, fun _ => 0, fun _ => 0, fun _ => 0, fun _ => 0, fun _ => 0, fun _ => 0, fun _ => 0, fun _ => 0, rfl, rfl, ?_⟩
  refine ⟨Nat.le_refl _, by omega, fun j => ⟨0, by omega, z j⟩, ⟨⟨fun j => ⟨0, by omega, z j⟩, fun j => ⟨0, by omega, z j⟩, fun j => ⟨0, by omega, z j⟩, fun j => Or.inl rfl⟩, fun j => ⟨0, by omega, z j⟩, ⟨0, ⟨Nat.le_refl _, by omega, fun d hd => absurd hd (Nat.not_lt_zero d), fun d _ hd => absurd hd (Nat.not_lt_zero d), fun c hc => by omega⟩, by omega⟩, fun j hj => absurd hj (Nat.not_lt_zero j)⟩,
    ⟨Nat.zero_le _, fun t ht => absurd ht (by simp), rfl, sr_H_0 _ _, sr_H_0 _ _⟩, fun w _ => ⟨Nat.zero_le _, fun t ht => absurd ht (by simp), fun z => absurd rfl z, rfl, rfl, sr_H_0 _ _, sr_H_0 _ _⟩, fun w _ => ⟨0, by omega, rfl⟩, ⟨by omega, fun p hp => absurd hp (Nat.not_lt_zero p)⟩, fun k _ => rfl⟩
/-! texts stay texts -/
theorem sd_tx_cy {a s : Nat → Int32} {b c m : Nat} (ha : sd_tx a) (hs : sd_tx s) : sd_tx (sd_cy a b s c m) := by
  intro j
  unfold sd_cy
  split
  · exact hs _
  · exact ha j
theorem sd_tx_js {fr : Int32} {d : Nat} {s : sd_D × Nat × Nat} (h : sd_tx s.1.2.2.2.1) : sd_tx (sd_js fr d s).1.2.2.2.1 := by
  unfold sd_js
  split
  · split
    · exact sd_tx_cy h h
    · exact h
  · exact sd_tx_cy h h
theorem sd_tx_jn {fr : Int32} {D : sd_D} (h : sd_tx D.2.2.2.1) : ∀ d, sd_tx (sd_jn fr D d).1.2.2.2.1
  | 0 => h
  | d + 1 => sd_tx_js (sd_tx_jn h d)
theorem sm_go_tx : ∀ k (s : sm_S), sd_tx s.1.2.2.2.1 → sd_tx (sm_go k s).1.2.2.2.1
  | 0, _, h => h
  | k + 1, s, h => by
    by_cases ha : sd_al s.2.1 s.2.2.2
    · rw [sm_go_y ha]; exact sm_go_tx k _ (sd_tx_jn h _)
    · rw [sm_go_n ha]; exact h
theorem sd_rmv_ok : ∀ m k (D : sd_D), sd_ok D → sd_ok (sd_rmv m k D)
  | 0, _, _, h => h
  | m + 1, k, D, h => sd_rmv_ok m (k + 1) _ (sd_ok_cp h _ _)
theorem sd_rmv_tx : ∀ m k (D : sd_D), sd_tx D.2.2.2.1 → sd_tx (sd_rmv m k D).2.2.2.1
  | 0, _, _, h => h
  | m + 1, k, D, h => sd_rmv_tx m (k + 1) _ (sd_tx_cy h h)
theorem sd_rmv_S : ∀ m k (D : sd_D) (st : Nat), st ≤ k → (∀ d, d < st → (sd_rmv m k D).2.2.2.2.1 d = D.2.2.2.2.1 d) ∧ ((∀ d, st ≤ d → d < k + m + 1 → D.2.2.2.2.1 d = -1) → ∀ d, st ≤ d → d < k + m + 1 → (sd_rmv m k D).2.2.2.2.1 d = -1)
  | 0, _, _, _, _ => ⟨fun _ _ => rfl, fun h => h⟩
  | m + 1, k, D, st, hk => by
    obtain ⟨h1, h2⟩ := sd_rmv_S m (k + 1) (sd_cp D (k + 1) k) st (by omega)
    refine ⟨fun d hd => ?_, fun h d a b => ?_⟩
    · rw [show sd_rmv (m + 1) k D = sd_rmv m (k + 1) (sd_cp D (k + 1) k) from rfl, h1 d hd]
      show upd D.2.2.2.2.1 k _ d = _
      rw [pk_un (by omega)]
    · rw [show sd_rmv (m + 1) k D = sd_rmv m (k + 1) (sd_cp D (k + 1) k) from rfl]
      refine h2 (fun e a b => ?_) d a (by omega)
      show upd D.2.2.2.2.1 k (D.2.2.2.2.1 (k + 1)) e = -1
      by_cases hek : e = k
      · subst hek; rw [pk_us]; exact h _ (by omega) (by omega)
      · rw [pk_un hek]; exact h e a (by omega)
theorem sr_W_X {W : Nat → List Nat} {wq wl tk ln : Nat → Int32} (h : sr_W W wq wl tk ln) : sn_W W wq wl := fun w hw => by
  obtain ⟨h1, h2, h3, h4, h5, h6, h7⟩ := h w hw
  exact ⟨h1, h2, h3, h4, h6⟩
theorem sr_W_Y {W : Nat → List Nat} {wq wl tk ln : Nat → Int32} (h : sr_W W wq wl tk ln) : sn_WY W tk ln := fun w hw => by
  obtain ⟨h1, h2, h3, h4, h5, h6, h7⟩ := h w hw
  exact ⟨h1, h2, h3, h5, h7⟩
/-! the flush of both sides -/
section
variable {fdc fnn fsg fpt fpq fsc fsl fhc : Int32} {aN aP aL aT aS aD aV aPT aPQ aLQ aI aM aC aW aB aG aHN aHS aHR aSH aWQ aWL aNN aNC : Nat → Int32}
variable {gdc gsg gnn gpt gkp : Int32} {bN bP bL bT bS bD bV bPT bTK bLN bKD bSP bWT bIS bMA bNN bNC bKN bSH bIH : Nat → Int32} {bSC bKS bHS : Nat → Int64}
theorem v_flush {dc st sg : Nat} {W : Nat → List Nat} {D : sd_D} (hD : sd_ok D) (hT : sd_tx D.2.2.2.1) (hI : sd_I D.2.2.2.2.1 st dc sg) (hV : ∀ j, j < sg → aV j = bV j) (hW : sr_W W aWQ aWL bTK bLN) (hN : sr_N aNC) :
    ∃ (D1 : sd_D) (dc1 sg1 : Nat) (V1 NN1 NC1 : Nat → Int32), sd_ok D1 ∧ sd_tx D1.2.2.2.1 ∧ sd_I D1.2.2.2.2.1 dc1 dc1 sg1 ∧ sr_N NC1 ∧
      (∀ post : SX → Prop, (∀ (c1 c2 : Int32) (M C V B G : Nat → Int32), post (nI dc1, fnn, nI sg1, fpt, fpq, c1, c2, fhc, D1.1, D1.2.1, D1.2.2.1, D1.2.2.2.1, D1.2.2.2.2.1, D1.2.2.2.2.2, V1, aPT, aPQ, aLQ, aI, M, C, V, B, G, aHN, aHS, aHR, aSH, aWQ, aWL, NN1, NC1)) → wpX_flushBuffer post (nI dc, fnn, nI sg, fpt, fpq, fsc, fsl, fhc, D.1, D.2.1, D.2.2.1, D.2.2.2.1, D.2.2.2.2.1, D.2.2.2.2.2, aV, aPT, aPQ, aLQ, aI, aM, aC, aW, aB, aG, aHN, aHS, aHR, aSH, aWQ, aWL, aNN, aNC)) ∧
      (∀ post : Int32 → SY → Prop, (∀ (V' KD SP WT IS MA : Nat → Int32) (SC : Nat → Int64), (∀ j, j < sg1 → V1 j = V' j) → post (nI sg1) (nI dc1, nI sg1, gnn, gpt, gkp, D1.1, D1.2.1, D1.2.2.1, D1.2.2.2.1, D1.2.2.2.2.1, D1.2.2.2.2.2, V', bPT, bTK, bLN, KD, SP, WT, IS, MA, SC, NN1, NC1, bKN, bKS, bSH, bIH, bHS)) → wpY_flush post (nI dc, nI sg, gnn, gpt, gkp, D.1, D.2.1, D.2.2.1, D.2.2.2.1, D.2.2.2.2.1, D.2.2.2.2.2, bV, bPT, bTK, bLN, bKD, bSP, bWT, bIS, bMA, bSC, aNN, aNC, bKN, bKS, bSH, bIH, bHS)) := by
  have h1 := hI.1
  rcases Nat.lt_or_ge st dc with hlt | hge
  · have hgo := sm_go_I 16 (sm_fl D st dc sg, upd aV sg 0, dc, sg + 1) ⟨hD, sm_fl_I hI hlt⟩
    have htx := sm_go_tx 16 (sm_fl D st dc sg, upd aV sg 0, dc, sg + 1) hT
    refine ⟨(sm_go 16 (sm_fl D st dc sg, upd aV sg 0, dc, sg + 1)).1, (sm_go 16 (sm_fl D st dc sg, upd aV sg 0, dc, sg + 1)).2.2.1, (sm_go 16 (sm_fl D st dc sg, upd aV sg 0, dc, sg + 1)).2.2.2, (sm_go 16 (sm_fl D st dc sg, upd aV sg 0, dc, sg + 1)).2.1, (sn_t W (sn_mt D) D.1 st (dc - st) (aNN, aNC)).1, (sn_t W (sn_mt D) D.1 st (dc - st) (aNN, aNC)).2, hgo.1, htx, hgo.2, sn_t_N hN _, fun post hp => ?_, fun post hp => ?_⟩
    · refine xm_flush (W := W) hD hI (sr_W_X hW) hN (fun z => absurd z (by omega)) (fun _ s n hs hn c1 c2 M C V B G => ?_)
      subst hs hn
      exact hp c1 c2 M C V B G
    · refine ym_flush (W := W) hD hI (sr_W_Y hW) hN aV hV (fun z => absurd z (by omega)) (fun _ s n hs hn V' KD SP WT IS MA SC hV' => ?_)
      subst hs hn
      exact hp V' KD SP WT IS MA SC hV'
  · obtain rfl : st = dc := by omega
    refine ⟨D, st, sg, aV, aNN, aNC, hD, hT, hI, hN, fun post hp => ?_, fun post hp => ?_⟩
    · exact xm_flush (W := W) hD hI (sr_W_X hW) hN (fun _ => hp fsc fsl aM aC aW aB aG) (fun z => absurd z (by omega))
    · exact ym_flush (W := W) hD hI (sr_W_Y hW) hN aV hV (fun _ => hp bV bKD bSP bWT bIS bMA bSC hV) (fun z => absurd z (by omega))
end
end
section
theorem xv_w0 {x : Int32} (h : x < 0 ∨ nI 8 ≤ x) {post : Int32 → Prop} (hp : post 0) : wpX_isWord post x := br_c (fun _ => hp) (fun h1 => by
  rcases h with h | h
  · exact absurd h h1
  · exact br_t h hp)
theorem xv_l0 {x : Int32} (h : x < 0 ∨ nI 11 ≤ x) {post : Int32 → Prop} (hp : post 0) : wpX_isLimit post x := br_c (fun _ => hp) (fun h1 => by
  rcases h with h | h
  · exact absurd h h1
  · exact br_t (Int32.lt_of_lt_of_le (show (10 : Int32) < nI 11 by decide) h) hp)
theorem xv_l1 {t : Nat} (h : t < 11) {post : Int32 → Prop} (hp : post 1) : wpX_isLimit post (nI t) := br_f (nI_pos (by omega)) (br_f (nI_nlt (a := 10) (by omega) (by decide)) hp)
theorem xv_h0 {x : Int32} (h : x < 0 ∨ nI 4 ≤ x) {post : Int32 → Prop} (hp : post 0) : wpX_isWatch post x := br_c (fun _ => hp) (fun h1 => by
  rcases h with h | h
  · exact absurd h h1
  · exact br_t h hp)
theorem xv_h1 {t : Nat} (h : t < 4) {post : Int32 → Prop} (hp : post 1) : wpX_isWatch post (nI t) := br_f (nI_pos (by omega)) (br_f (nI_ge (b := 4) h (by decide)) hp)
theorem yv_0 {x : Int32} {n : Nat} (h : x < 0 ∨ nI (n + 1) ≤ x) (hn : n + 1 < 2 ^ 31) {post : Int32 → Prop} (hp : post 0) : wpY_within post x 0 (nI n) := yw_in0 (by
  rcases h with h | h
  · exact Or.inl h
  · exact Or.inr (Int32.lt_of_lt_of_le (nI_lt (Nat.lt_succ_self n) hn) h)) hp
theorem yv_1 {t n : Nat} (h : t ≤ n) (hn : n < 2 ^ 31) {post : Int32 → Prop} (hp : post 1) : wpY_within post (nI t) 0 (nI n) := yw_in1 (nI_pos (by omega)) (nI_nlt h (by omega)) hp
theorem sr_slot {N : Nat → Int32} {dc : Nat} {x r : Int32} (h : sd_F N dc x r) : r = -1 ∨ ∃ d, d < dc ∧ r = nI d := by
  rcases h with h | ⟨d, h1, h2, _⟩
  · exact Or.inl h.1
  · exact Or.inr ⟨d, h1, h2⟩
theorem sx_mm : ((-1 : Int32) = -1) := rfl
theorem i_vc_word {k : Nat} {u : SX} {v : SY} (I : i_Rel k u v) (hk : k + 3 ≤ 1536) (v1 : Int32) : wpX_word (fun r u' => wpY_word (fun r' v' => r' = r ∧ i_Rel (k + 3) u' v') v v1) u v1 := by
  have I3 := i_up I
  obtain ⟨dc, m, sg, pt, hc, q, W, D, fsc, fsl, aV, aPT, aPQ, aLQ, aI, aM, aC, aW, aB, aG, aHN, aHS, aHR, aSH, aWQ, aWL, aNN, aNC, bV, bTK, bLN, bKD, bSP, bWT, bIS, bMA, bKN, bSH, bIH, bSC, bKS, bHS, rfl, rfl, hA⟩ := I
  obtain ⟨hm, hpt, hPT, ⟨hD, hT, ⟨st, hI, hst3⟩, hV⟩, hQ, hW, hN, hK, hS⟩ := hA
  unfold wpX_word
  rcases pk_ix v1 (n := 8) (by decide) with h | h | ⟨t, ht, rfl⟩
  · refine xv_w0 (Or.inl h) (br_t rfl ?_)
    unfold wpY_word
    exact yv_0 (n := 7) (Or.inl h) (by decide) (br_t rfl ⟨rfl, I3⟩)
  · refine xv_w0 (Or.inr h) (br_t rfl ?_)
    unfold wpY_word
    exact yv_0 (n := 7) (Or.inr h) (by decide) (br_t rfl ⟨rfl, I3⟩)
  · refine xj_w1 ht (br_f (by decide) ?_)
    unfold wpY_word
    rcases Nat.lt_or_ge pt 12 with h | h
    · refine br_t (nI_lt (b := 12) h (by decide)) ⟨vp_in_nI h (by decide), ?_⟩
      rw [nI_clamp (n := pt) (by omega)]
      refine nm_e (nm_r (nI_1 _) ?_)
      refine yv_1 (n := 7) (by omega) (by decide) (br_f (by decide) (br_f (fun z => by have := (nI_eq (b := 12) (by omega) (by decide)).mp z; omega) (nm_r (nI_1 _) ⟨vp_in_nI h (by decide), nm_r (by rw [nI_clamp (n := pt) (by omega)]) ⟨rfl, sr_mk (W := W) ⟨by omega, by omega, ?_, ⟨hD, hT, ⟨st, hI, hst3⟩, hV⟩, hQ, hW, hN, hK, hS⟩⟩⟩)))
      exact sd_upd_all (Q := fun x => ∃ n, n < 8 ∧ x = nI n) hPT ⟨t, ht, rfl⟩
    · obtain rfl : pt = 12 := by omega
      exact br_f (nI_nlt (b := 12) h (by decide)) (yv_1 (n := 7) (by omega) (by decide) (br_f (by decide) (br_t rfl ⟨rfl, I3⟩)))
theorem i_vc_hit {k : Nat} {u : SX} {v : SY} (I : i_Rel k u v) (hk : k + 3 ≤ 1536) (v1 : Int32) (v2 : Int32) : wpX_hit (fun r => wpY_hit (fun r' => r' = r ∧ i_Rel (k + 3) u v) v v1 v2) u v1 v2 := by
  have I3 := i_up I
  obtain ⟨dc, m, sg, pt, hc, q, W, D, fsc, fsl, aV, aPT, aPQ, aLQ, aI, aM, aC, aW, aB, aG, aHN, aHS, aHR, aSH, aWQ, aWL, aNN, aNC, bV, bTK, bLN, bKD, bSP, bWT, bIS, bMA, bKN, bSH, bIH, bSC, bKS, bHS, rfl, rfl, hA⟩ := I
  obtain ⟨hm, hpt, hPT, ⟨hD, hT, ⟨st, hI, hst3⟩, hV⟩, hQ, hW, hN, hK, hS⟩ := hA
  unfold wpX_hit wpY_hit
  rcases pk_ix v1 (n := hc) (by have := hK.1; omega) with h | h | ⟨p, hp, rfl⟩
  · exact br_t h (br_t h ⟨rfl, I3⟩)
  · have h0 : ¬ v1 < 0 := fun z => absurd (Int32.lt_of_le_of_lt h z) (nI_pos (by have := hK.1; omega))
    exact br_f h0 (br_f (Int32.not_lt.mpr h) (br_f h0 (br_t h ⟨rfl, I3⟩)))
  · obtain ⟨h10, hKp⟩ := hK
    obtain ⟨e1, e2⟩ := hKp p hp
    have h0 : ¬ nI p < 0 := nI_pos (by omega)
    have hv : vp_in (nI p) 10 := vp_in_nI (by omega) (by omega)
    have ep : (nI p).toNatClampNeg = p := nI_clamp (by omega)
    refine br_f h0 (br_t (nI_lt hp (by omega)) ?_)
    have hY : ¬ nI hc ≤ nI p := nI_ge hp (by omega)
    rcases pk_ix v2 (n := 2) (by decide) with h | h | ⟨w, hw, rfl⟩
    · refine br_f (fun z => by rw [z] at h; exact absurd h (by decide)) (br_f (fun z => by rw [z] at h; exact absurd h (by decide)) (br_f h0 (br_f hY (yv_0 (n := 1) (Or.inl h) (by decide) (br_t rfl ⟨rfl, I3⟩)))))
    · refine br_f (fun z => by rw [z] at h; exact absurd h (by decide)) (br_f (fun z => by rw [z] at h; exact absurd h (by decide)) (br_f h0 (br_f hY (yv_0 (n := 1) (Or.inr h) (by decide) (br_t rfl ⟨rfl, I3⟩)))))
    · obtain rfl | rfl : w = 0 ∨ w = 1 := by omega
      · refine br_t rfl ⟨hv, br_f h0 (br_f hY (yv_1 (n := 1) (by omega) (by decide) (br_f (by decide) (br_t rfl ⟨hv, ?_, I3⟩))))⟩
        rw [ep, e1]
      · refine br_f (by decide) (br_t rfl ⟨hv, br_f h0 (br_f hY (yv_1 (n := 1) (by omega) (by decide) (br_f (by decide) (br_f (by decide) ⟨hv, ?_, I3⟩))))⟩)
        rw [ep, e2]
theorem i_vc_share {k : Nat} {u : SX} {v : SY} (I : i_Rel k u v) (hk : k + 3 ≤ 1536) (v1 : Int32) : wpX_share (fun r => wpY_share (fun r' => r' = r ∧ i_Rel (k + 3) u v) v v1) u v1 := by
  have I3 := i_up I
  obtain ⟨dc, m, sg, pt, hc, q, W, D, fsc, fsl, aV, aPT, aPQ, aLQ, aI, aM, aC, aW, aB, aG, aHN, aHS, aHR, aSH, aWQ, aWL, aNN, aNC, bV, bTK, bLN, bKD, bSP, bWT, bIS, bMA, bKN, bSH, bIH, bSC, bKS, bHS, rfl, rfl, hA⟩ := I
  obtain ⟨hm, hpt, hPT, ⟨hD, hT, ⟨st, hI, hst3⟩, hV⟩, hQ, hW, hN, hK, hS⟩ := hA
  unfold wpX_share wpY_share
  rcases pk_ix v1 (n := 10) (by decide) with h | h | ⟨p, hp, rfl⟩
  · exact br_t h (yv_0 (n := 9) (Or.inl h) (by decide) (br_t rfl ⟨rfl, I3⟩))
  · have h0 : ¬ v1 < 0 := fun z => absurd (Int32.lt_of_le_of_lt h z) (by decide)
    exact br_f h0 (br_f (Int32.not_lt.mpr h) (yv_0 (n := 9) (Or.inr h) (by decide) (br_t rfl ⟨rfl, I3⟩)))
  · have hv : vp_in (nI p) 10 := vp_in_nI (by omega) (by omega)
    refine br_f (nI_pos (by omega)) (br_t (nI_lt (b := 10) hp (by decide)) ⟨hv, yv_1 (n := 9) (by omega) (by decide) (br_f (by decide) ⟨hv, ?_, I3⟩)⟩)
    rw [nI_clamp (by omega)]
    exact (hS p hp).symm
theorem i_vc_at {k : Nat} {u : SX} {v : SY} (I : i_Rel k u v) (hk : k + 3 ≤ 1536) (v1 : Int32) (v2 : Int32) : wpX_at (fun r => wpY_at (fun r' => r' = r ∧ i_Rel (k + 3) u v) v v1 v2) u v1 v2 := by
  have I3 := i_up I
  obtain ⟨dc, m, sg, pt, hc, q, W, D, fsc, fsl, aV, aPT, aPQ, aLQ, aI, aM, aC, aW, aB, aG, aHN, aHS, aHR, aSH, aWQ, aWL, aNN, aNC, bV, bTK, bLN, bKD, bSP, bWT, bIS, bMA, bKN, bSH, bIH, bSC, bKS, bHS, rfl, rfl, hA⟩ := I
  obtain ⟨hm, hpt, hPT, ⟨hD, hT, ⟨st, hI, hst3⟩, hV⟩, hQ, hW, hN, hK, hS⟩ := hA
  obtain ⟨r, hF⟩ := sd_F_ex D.1 v1 dc
  have h32 := hI.2.1
  have hL := sd_ok_L hD
  unfold wpX_at
  refine xr_slotOf h32 hF ?_
  unfold wpY_at
  rcases sr_slot hF with rfl | ⟨d, hd, rfl⟩
  · refine br_t rfl ?_
    refine yr_find h32 hF ?_
    exact br_t sx_m0 ⟨rfl, I3⟩
  · have hv : vp_in (nI d) 32 := vp_in_nI (by omega) (by omega)
    have ed : (nI d).toNatClampNeg = d := nI_clamp (by omega)
    obtain ⟨hl1, hl2⟩ := hL d
    refine br_f (sx_nm (by omega)) ?_
    have hr0 : ¬ nI d < 0 := nI_pos (by omega)
    rcases pk_ix v2 (n := sd_n D.2.2.1 d) (by omega) with h | h | ⟨i, hi, rfl⟩
    · refine br_t h ?_
      refine yr_find h32 hF ?_
      exact br_f hr0 (br_t h ⟨rfl, I3⟩)
    · have h0 : ¬ v2 < 0 := fun z => absurd (Int32.lt_of_le_of_lt h z) (nI_pos (by omega))
      have hc : ¬ v2 < D.2.2.1 (nI d).toNatClampNeg := by rw [ed, hl1]; exact Int32.not_lt.mpr h
      refine br_f h0 ⟨hv, br_f hc ?_⟩
      refine yr_find h32 hF ?_
      exact br_f hr0 (br_f h0 ⟨hv, br_f hc ⟨rfl, I3⟩⟩)
    · have h0 : ¬ nI i < 0 := nI_pos (by omega)
      have hc : nI i < D.2.2.1 (nI d).toNatClampNeg := by rw [ed, hl1]; exact nI_lt hi (by omega)
      refine br_f h0 ⟨hv, br_t hc ⟨by rw [sx_ix]; exact vp_in_nI (by omega) (by omega), ?_⟩⟩
      refine yr_find h32 hF ?_
      refine br_f hr0 (br_f h0 ⟨hv, br_t hc ⟨by rw [sy_ix]; exact vp_in_nI (by omega) (by omega), ?_, I3⟩⟩)
      rw [sx_ix, sy_ix]
theorem i_vc_about {k : Nat} {u : SX} {v : SY} (I : i_Rel k u v) (hk : k + 3 ≤ 1536) (v1 : Int32) (v2 : Int32) : wpX_about (fun r => wpY_about (fun r' => r' = r ∧ i_Rel (k + 3) u v) v v1 v2) u v1 v2 := by
  have I3 := i_up I
  obtain ⟨dc, m, sg, pt, hc, q, W, D, fsc, fsl, aV, aPT, aPQ, aLQ, aI, aM, aC, aW, aB, aG, aHN, aHS, aHR, aSH, aWQ, aWL, aNN, aNC, bV, bTK, bLN, bKD, bSP, bWT, bIS, bMA, bKN, bSH, bIH, bSC, bKS, bHS, rfl, rfl, hA⟩ := I
  obtain ⟨hm, hpt, hPT, ⟨hD, hT, ⟨st, hI, hst3⟩, hV⟩, hQ, hW, hN, hK, hS⟩ := hA
  obtain ⟨r, hF⟩ := sd_F_ex D.1 v1 dc
  have h32 := hI.2.1
  unfold wpX_about
  refine xr_slotOf h32 hF ?_
  unfold wpY_about
  rcases sr_slot hF with rfl | ⟨d, hd, rfl⟩
  · refine br_t rfl ?_
    refine yr_find h32 hF ?_
    exact br_t sx_m0 ⟨rfl, I3⟩
  · have hv : vp_in (nI d) 32 := vp_in_nI (by omega) (by omega)
    refine br_f (sx_nm (by omega)) ?_
    have hr0 : ¬ nI d < 0 := nI_pos (by omega)
    rcases pk_ix v2 (n := 3) (by omega) with h | h | ⟨i, hi, rfl⟩
    · refine br_t h ?_
      refine yr_find h32 hF ?_
      exact br_f hr0 (yv_0 (n := 2) (Or.inl h) (by decide) (br_t rfl ⟨rfl, I3⟩))
    · have h0 : ¬ v2 < 0 := fun z => absurd (Int32.lt_of_le_of_lt h z) (nI_pos (by omega))
      refine br_f h0 (br_t (Int32.lt_of_lt_of_le (show (2 : Int32) < nI 3 by decide) h) ?_)
      refine yr_find h32 hF ?_
      exact br_f hr0 (yv_0 (n := 2) (Or.inr h) (by decide) (br_t rfl ⟨rfl, I3⟩))
    · refine br_f (nI_pos (by omega)) (br_f (nI_nlt (a := 2) (by omega) (by decide)) ?_)
      obtain rfl | rfl | rfl : i = 0 ∨ i = 1 ∨ i = 2 := by omega
      · refine br_t rfl ⟨hv, ?_⟩
        refine yr_find h32 hF ?_
        exact br_f hr0 (yv_1 (n := 2) (by omega) (by decide) (br_f (by decide) (br_t rfl ⟨hv, rfl, I3⟩)))
      · refine br_f (by decide) (br_t rfl ⟨hv, ?_⟩)
        refine yr_find h32 hF ?_
        exact br_f hr0 (yv_1 (n := 2) (by omega) (by decide) (br_f (by decide) (br_f (by decide) (br_t rfl ⟨hv, rfl, I3⟩))))
      · refine br_f (by decide) (br_f (by decide) (br_t rfl ⟨hv, ?_⟩))
        refine yr_find h32 hF ?_
        exact br_f hr0 (yv_1 (n := 2) (by omega) (by decide) (br_f (by decide) (br_f (by decide) (br_f (by decide) ⟨hv, rfl, I3⟩))))
theorem i_vc_next {k : Nat} {u : SX} {v : SY} (I : i_Rel k u v) (hk : k + 3 ≤ 1536) (v1 : Int32) : wpX_next (fun r u' => wpY_next (fun r' v' => r' = r ∧ i_Rel (k + 3) u' v') v v1) u v1 := by
  have I3 := i_up I
  obtain ⟨dc, m, sg, pt, hc, q, W, D, fsc, fsl, aV, aPT, aPQ, aLQ, aI, aM, aC, aW, aB, aG, aHN, aHS, aHR, aSH, aWQ, aWL, aNN, aNC, bV, bTK, bLN, bKD, bSP, bWT, bIS, bMA, bKN, bSH, bIH, bSC, bKS, bHS, rfl, rfl, hA⟩ := I
  obtain ⟨hm, hpt, hPT, ⟨hD, hT, ⟨st, hI, hst3⟩, hV⟩, hQ, hW, hN, hK, hS⟩ := hA
  unfold wpX_next
  rcases pk_ix v1 (n := 4) (by decide) with h | h | ⟨w, hw, rfl⟩
  · refine xv_h0 (Or.inl h) (br_t rfl ?_)
    unfold wpY_next
    exact yv_0 (n := 3) (Or.inl h) (by decide) (br_t rfl ⟨rfl, I3⟩)
  · refine xv_h0 (Or.inr h) (br_t rfl ?_)
    unfold wpY_next
    exact yv_0 (n := 3) (Or.inr h) (by decide) (br_t rfl ⟨rfl, I3⟩)
  · have hv : vp_in (nI w) 4 := vp_in_nI hw (by decide)
    have ew : (nI w).toNatClampNeg = w := nI_clamp (by omega)
    obtain ⟨hc1, hc8⟩ := sr_N_n hN hw
    refine xv_h1 hw (br_f (by decide) ⟨hv, ?_⟩)
    unfold wpY_next
    rw [ew, hc1]
    rcases Nat.eq_zero_or_pos (sd_n aNC w) with h | h
    · refine br_t (by rw [h]; rfl) ?_
      refine yv_1 (n := 3) (by omega) (by decide) (br_f (by decide) ⟨hv, ?_⟩)
      exact br_t (by rw [hc1, h]; rfl) ⟨rfl, I3⟩
    · rw [sx_8, sy_8, nI_clamp (n := 8 * w) (by omega)]
      refine br_f (nI_ne0 h (by omega)) ⟨vp_in_nI (by omega) (by omega), nm_e ?_⟩
      refine xn_drop hw hc1 h hc8 ?_
      refine yv_1 (n := 3) (by omega) (by decide) (br_f (by decide) ⟨hv, br_f (by rw [hc1]; exact nI_ne0 h (by omega)) ⟨vp_in_nI (by omega) (by omega), nm_e ?_⟩⟩)
      refine yn_drop hw hc1 h hc8 ?_
      exact ⟨rfl, sr_mk (W := W) ⟨by omega, hpt, hPT, ⟨hD, hT, ⟨st, hI, hst3⟩, hV⟩, hQ, hW, sr_N_upd hN (by omega), hK, hS⟩⟩
end
section
theorem sr_H_low {a : Nat → Int32} {b n : Nat} {x : Int32} {q : List Nat} (h : sr_H a b q) (hn : n < b ∨ b + q.length ≤ n) : sr_H (upd a n x) b q := fun i hi => by
  rw [pk_un (by omega)]; exact h i hi
theorem i_vc_token {k : Nat} {u : SX} {v : SY} (I : i_Rel k u v) (hk : k + 3 ≤ 1536) (v1 : Int32) : wpX_token (fun r u' => wpY_token (fun r' v' => r' = r ∧ i_Rel (k + 3) u' v') v v1) u v1 := by
  have I3 := i_up I
  obtain ⟨dc, m, sg, pt, hc, q, W, D, fsc, fsl, aV, aPT, aPQ, aLQ, aI, aM, aC, aW, aB, aG, aHN, aHS, aHR, aSH, aWQ, aWL, aNN, aNC, bV, bTK, bLN, bKD, bSP, bWT, bIS, bMA, bKN, bSH, bIH, bSC, bKS, bHS, rfl, rfl, hA⟩ := I
  obtain ⟨hm, hpt, hPT, ⟨hD, hT, ⟨st, hI, hst3⟩, hV⟩, hQ, hW, hN, hK, hS⟩ := hA
  have hQ' := hQ
  obtain ⟨q1, q2, q3, q4, q5⟩ := hQ
  -- a token that is none
  have bad : ∀ x : Int32, (x < 0 ∨ nI 13 ≤ x) → (x < nI 1000 ∨ nI 11000 ≤ x) → wpY_token (fun r' v' => r' = -1 ∧ i_Rel (k + 3) (nI dc, nI m, nI sg, nI pt, nI q.length, fsc, fsl, nI hc, D.1, D.2.1, D.2.2.1, D.2.2.2.1, D.2.2.2.2.1, D.2.2.2.2.2, aV, aPT, aPQ, aLQ, aI, aM, aC, aW, aB, aG, aHN, aHS, aHR, aSH, aWQ, aWL, aNN, aNC) v') (nI dc, nI sg, nI m, nI pt, nI hc, D.1, D.2.1, D.2.2.1, D.2.2.2.1, D.2.2.2.2.1, D.2.2.2.2.2, bV, aPT, bTK, bLN, bKD, bSP, bWT, bIS, bMA, bSC, aNN, aNC, bKN, bKS, bSH, bIH, bHS) x := by
    intro x h1 h2
    unfold wpY_token
    refine yv_0 (n := 12) h1 (by decide) (br_t rfl ?_)
    refine yw_in0 ?_ (br_t rfl ⟨rfl, I3⟩)
    rcases h2 with h2 | h2
    · exact Or.inl h2
    · exact Or.inr (Int32.lt_of_lt_of_le (show (10999 : Int32) < nI 11000 by decide) h2)
  have good : ∀ t : Nat, sv_tk t → wX_token_26 (fun r u' => wpY_token (fun r' v' => r' = r ∧ i_Rel (k + 3) u' v') (nI dc, nI sg, nI m, nI pt, nI hc, D.1, D.2.1, D.2.2.1, D.2.2.2.1, D.2.2.2.2.1, D.2.2.2.2.2, bV, aPT, bTK, bLN, bKD, bSP, bWT, bIS, bMA, bSC, aNN, aNC, bKN, bKS, bSH, bIH, bHS) (nI t)) (nI t) 1 (nI dc) (nI m) (nI sg) (nI pt) (nI q.length) fsc fsl (nI hc) D.1 D.2.1 D.2.2.1 D.2.2.2.1 D.2.2.2.2.1 D.2.2.2.2.2 aV aPT aPQ aLQ aI aM aC aW aB aG aHN aHS aHR aSH aWQ aWL aNN aNC := by
    intro t ht
    have ht2 : t < 2 ^ 31 := by unfold sv_tk at ht; omega
    have Y23 : ∀ (P : Int32 → SY → Prop), wY_token_23 P (nI t) (nI dc) (nI sg) (nI m) (nI pt) (nI hc) D.1 D.2.1 D.2.2.1 D.2.2.2.1 D.2.2.2.2.1 D.2.2.2.2.2 bV aPT bTK bLN bKD bSP bWT bIS bMA bSC aNN aNC bKN bKS bSH bIH bHS → wpY_token P (nI dc, nI sg, nI m, nI pt, nI hc, D.1, D.2.1, D.2.2.1, D.2.2.2.1, D.2.2.2.2.1, D.2.2.2.2.2, bV, aPT, bTK, bLN, bKD, bSP, bWT, bIS, bMA, bSC, aNN, aNC, bKN, bKS, bSH, bIH, bHS) (nI t) := by
      intro P hP
      unfold wpY_token
      by_cases h13 : t < 13
      · exact yv_1 (n := 12) (by omega) (by decide) (br_f (by decide) hP)
      · have h1000 : 1000 ≤ t ∧ t < 11000 := by unfold sv_tk at ht; omega
        refine yv_0 (n := 12) (Or.inr (nI_le (by omega) ht2)) (by decide) (br_t rfl ?_)
        exact yw_in1 (nI_nlt (b := 1000) h1000.1 ht2) (nI_nlt (a := 10999) (by omega) (by decide)) (br_f (by decide) hP)
    refine br_f (by decide) ?_
    rcases Nat.lt_or_ge q.length 12 with h | h
    · have e1 : (q ++ [t]).length = q.length + 1 := by rw [List.length_append]; rfl
      refine br_t (nI_lt (b := 12) h (by decide)) ⟨vp_in_nI h (by decide), ?_⟩
      rw [nI_clamp (n := q.length) (by omega)]
      refine nm_e (nm_r (show nI q.length + 1 = nI (q ++ [t]).length by rw [nI_1, e1]) ?_)
      refine Y23 _ ?_
      show (bLN 0 = 12 → _) ∧ (¬ bLN 0 = 12 → _)
      refine br_f (by rw [q3]; exact fun z => by have := (nI_eq (b := 12) (by omega) (by decide)).mp z; omega) ?_
      rw [q3]
      refine nm_r (show upd bLN 0 (nI q.length + 1) = upd bLN 0 (nI (q ++ [t]).length) by rw [nI_1, e1]) ⟨vp_in_nI (by omega) (by omega), nm_r (by rw [nI_clamp (n := q.length) (by omega)]) ⟨pk_us, sr_mk (W := W) (q := q ++ [t]) ⟨by omega, hpt, hPT, ⟨hD, hT, ⟨st, hI, hst3⟩, hV⟩, ?_, ?_, hN, hK, hS⟩⟩⟩
      · refine ⟨by omega, ?_, pk_us, ?_, ?_⟩
        · intro x hx
          rcases List.mem_append.mp hx with hx | hx
          · exact q2 x hx
          · rw [List.mem_singleton.mp hx]; exact ht
        · have := sr_H_app (t := t) q4
          rw [Nat.zero_add] at this
          exact this
        · have := sr_H_app (t := t) q5
          rw [Nat.zero_add] at this
          exact this
      · intro w hw
        obtain ⟨w1, w2, w3, w4, w5, w6, w7⟩ := hW w hw
        exact ⟨w1, w2, w3, w4, by rw [pk_un (by omega)]; exact w5, w6, sr_H_low w7 (by omega)⟩
    · have h12 : q.length = 12 := by omega
      refine br_f (nI_nlt (b := 12) h (by omega)) ?_
      refine Y23 _ ?_
      show (bLN 0 = 12 → _) ∧ (¬ bLN 0 = 12 → _)
      exact br_t (by rw [q3, h12]; rfl) ⟨rfl, I3⟩
  unfold wpX_token
  rcases pk_ix v1 (n := 11000) (by decide) with h | h | ⟨t, ht, rfl⟩
  · refine xv_w0 (Or.inl h) (br_t rfl ?_)
    unfold wpX_isJoin
    refine br_t (Int32.lt_trans h (by decide)) (br_t rfl ?_)
    unfold wpX_isRange
    exact br_t (Int32.lt_trans h (by decide)) (br_t rfl (br_t rfl (bad v1 (Or.inl h) (Or.inl (Int32.lt_trans h (by decide))))))
  · have g8 : nI 8 ≤ v1 := Int32.le_trans (show nI 8 ≤ nI 11000 by decide) h
    have g13 : nI 13 ≤ v1 := Int32.le_trans (show nI 13 ≤ nI 11000 by decide) h
    have g1000 : nI 1000 ≤ v1 := Int32.le_trans (show nI 1000 ≤ nI 11000 by decide) h
    refine xv_w0 (Or.inr g8) (br_t rfl ?_)
    unfold wpX_isJoin
    refine br_f (Int32.not_lt.mpr g8) (br_t (Int32.lt_of_lt_of_le (show (12 : Int32) < nI 13 by decide) g13) (br_t rfl ?_))
    unfold wpX_isRange
    exact br_f (Int32.not_lt.mpr g1000) (br_t (Int32.lt_of_lt_of_le (show (10999 : Int32) < nI 11000 by decide) h) (br_t rfl (br_t rfl (bad v1 (Or.inr g13) (Or.inr h)))))
  · by_cases h8 : t < 8
    · exact xj_w1 h8 (br_f (by decide) (good t (Or.inl (by omega))))
    · refine xj_w0 (by omega) (by omega) (br_t rfl ?_)
      by_cases h12 : t ≤ 12
      · exact xj_j1 (by omega) h12 (br_f (by decide) (good t (Or.inl (by omega))))
      · refine xj_j0 (Or.inr (by omega)) (by omega) (br_t rfl ?_)
        by_cases h1000 : 1000 ≤ t
        · exact xj_r1 h1000 ht (br_f (by decide) (good t (Or.inr ⟨h1000, ht⟩)))
        · exact xj_r0 (by omega) (br_t rfl (br_t rfl (bad (nI t) (Or.inr (nI_le (by omega) (by omega))) (Or.inl (nI_lt (by omega) (by decide))))))
section
variable {gdc gsg gnn gpt gkp : Int32} {bN bP bL bT bS bD bV bPT bTK bLN bKD bSP bWT bIS bMA bNN bNC bKN bSH bIH : Nat → Int32} {bSC bKS bHS : Nat → Int64}
theorem yv_held {dc : Nat} (h32 : dc ≤ 32) {x1 : Int32} (p : Nat → Bool) (hpd : ∀ j, j < dc → (p j = true ↔ ¬ bD j = 0)) {post : Int32 → Prop}
    (hp : (x1 = 0 → post (nI dc)) ∧ (¬ x1 = 0 → ((x1 = 1 → wpY_many (fun r => post r) (nI dc, gsg, gnn, gpt, gkp, bN, bP, bL, bT, bS, bD, bV, bPT, bTK, bLN, bKD, bSP, bWT, bIS, bMA, bSC, bNN, bNC, bKN, bKS, bSH, bIH, bHS) (-1)) ∧ (¬ x1 = 1 → ((x1 = 2 → post (nI (sg_cn p dc))) ∧ (¬ x1 = 2 → ((x1 = 3 → post gsg) ∧ (¬ x1 = 3 → post (-1))))))))) : wpY_held post (nI dc, gsg, gnn, gpt, gkp, bN, bP, bL, bT, bS, bD, bV, bPT, bTK, bLN, bKD, bSP, bWT, bIS, bMA, bSC, bNN, bNC, bKN, bKS, bSH, bIH, bHS) x1 := by
  have key : ∀ m i, i + m = dc → wY_held_4 post x1 (nI dc) gsg gnn gpt gkp bN bP bL bT bS bD bV bPT bTK bLN bKD bSP bWT bIS bMA bSC bNN bNC bKN bKS bSH bIH bHS (m + 1) (nI (sg_cn p i)) (nI i) := by
    intro m
    induction m with
    | zero =>
      intro i h
      obtain rfl : i = dc := by omega
      exact br_t (nI_le (Nat.le_refl _) (by omega)) hp
    | succ m ih =>
      intro i h
      have e : (nI i).toNatClampNeg = i := nI_clamp (by omega)
      have I := ih (i + 1) (by omega)
      refine br_f (nI_ge (by omega) (by omega)) ⟨vp_in_nI (by omega) (by omega), br_c (fun hd => ?_) (fun hd => ?_)⟩
      · rw [e] at hd
        rw [sg_cn_f (fun z => ((hpd i (by omega)).mp z) hd)] at I
        exact nm_r (nI_1 _) I
      · rw [e] at hd
        rw [sg_cn_t ((hpd i (by omega)).mpr hd)] at I
        exact nm_r (nI_1 _) (nm_r (nI_1 _) I)
  exact Exists.intro (dc + 1) (key dc 0 (Nat.zero_add _))
end
theorem i_vc_held {k : Nat} {u : SX} {v : SY} (I : i_Rel k u v) (hk : k + 3 ≤ 1536) (v1 : Int32) : wpX_held (fun r => wpY_held (fun r' => r' = r ∧ i_Rel (k + 3) u v) v v1) u v1 := by
  have I3 := i_up I
  obtain ⟨dc, m, sg, pt, hc, q, W, D, fsc, fsl, aV, aPT, aPQ, aLQ, aI, aM, aC, aW, aB, aG, aHN, aHS, aHR, aSH, aWQ, aWL, aNN, aNC, bV, bTK, bLN, bKD, bSP, bWT, bIS, bMA, bKN, bSH, bIH, bSC, bKS, bHS, rfl, rfl, hA⟩ := I
  obtain ⟨hm, hpt, hPT, ⟨hD, hT, ⟨st, hI, hst3⟩, hV⟩, hQ, hW, hN, hK, hS⟩ := hA
  have h32 := hI.2.1
  have hpd : ∀ j, j < dc → ((fun j => decide (¬ D.2.2.2.2.2 j = 0)) j = true ↔ ¬ D.2.2.2.2.2 j = 0) := fun j _ => decide_eq_true_iff
  have hpc : ∀ (x : Int32) j, j < dc → ((fun j => decide (D.2.2.2.2.1 j = x)) j = true ↔ D.2.2.2.2.1 j = x) := fun x j _ => decide_eq_true_iff
  unfold wpX_held
  rcases pk_ix v1 (n := 4) (by decide) with h | h | ⟨t, ht, rfl⟩
  · have ne : ∀ x : Int32, ¬ x < 0 → ¬ v1 = x := fun x hx z => hx (by rw [← z]; exact h)
    refine br_t h ?_
    exact yv_held h32 _ hpd (br_f (ne 0 (by decide)) (br_f (ne 1 (by decide)) (br_f (ne 2 (by decide)) (br_f (ne 3 (by decide)) ⟨rfl, I3⟩))))
  · have ne : ∀ x : Int32, ¬ nI 4 ≤ x → ¬ v1 = x := fun x hx z => hx (by rw [← z]; exact h)
    have h0 : ¬ v1 < 0 := fun z => absurd (Int32.lt_of_le_of_lt h z) (by decide)
    refine br_f h0 (br_t (Int32.lt_of_lt_of_le (show (3 : Int32) < nI 4 by decide) h) ?_)
    exact yv_held h32 _ hpd (br_f (ne 0 (by decide)) (br_f (ne 1 (by decide)) (br_f (ne 2 (by decide)) (br_f (ne 3 (by decide)) ⟨rfl, I3⟩))))
  · refine br_f (nI_pos (by omega)) (br_f (nI_nlt (a := 3) (by omega) (by decide)) ?_)
    obtain rfl | rfl | rfl | rfl : t = 0 ∨ t = 1 ∨ t = 2 ∨ t = 3 := by omega
    · refine br_t rfl ?_
      exact yv_held h32 _ hpd (br_t rfl ⟨rfl, I3⟩)
    · refine br_f (by decide) (br_t rfl ?_)
      refine xr_countIn h32 _ (hpc (-1)) ?_
      refine yv_held h32 _ hpd (br_f (by decide) (br_t rfl ?_))
      exact yr_many h32 _ (hpc (-1)) ⟨rfl, I3⟩
    · refine br_f (by decide) (br_f (by decide) (br_t rfl ?_))
      refine xr_countAllDeleted h32 _ hpd ?_
      exact yv_held h32 _ hpd (br_f (by decide) (br_f (by decide) (br_t rfl ⟨rfl, I3⟩)))
    · refine br_f (by decide) (br_f (by decide) (br_f (by decide) (br_t rfl ?_)))
      exact yv_held h32 _ hpd (br_f (by decide) (br_f (by decide) (br_f (by decide) (br_t rfl ⟨rfl, I3⟩))))
section
variable {gdc gsg gnn gpt gkp : Int32} {bN bP bL bT bS bD bV bPT bTK bLN bKD bSP bWT bIS bMA bNN bNC bKN bSH bIH : Nat → Int32} {bSC bKS bHS : Nat → Int64}
theorem yv_seg {dc : Nat} (h32 : dc ≤ 32) {x1 x2 : Int32} (hNn : ∀ j, ∃ n, n < 2 ^ 31 ∧ bN j = nI n) (p : Nat → Bool) (hpd : ∀ j, j < dc → (p j = true ↔ (bS j = x1 ∧ ¬ bD j = 0))) {post : Int32 → Prop}
    (hp : ∀ x4 : Int32, (((∀ j, j < dc → ¬ bS j = x1) ∧ x4 = -1) ∨ ∃ e, e < dc ∧ bS e = x1 ∧ (∀ j, j < e → ¬ bS j = x1) ∧ x4 = bN e) →
      ((x2 = 0 → (vp_in x1 34 ∧ (post (bV x1.toNatClampNeg)))) ∧ (¬ x2 = 0 → (((x2 = 1 → (wpY_many (fun r => post r) (nI dc, gsg, gnn, gpt, gkp, bN, bP, bL, bT, bS, bD, bV, bPT, bTK, bLN, bKD, bSP, bWT, bIS, bMA, bSC, bNN, bNC, bKN, bKS, bSH, bIH, bHS) x1)) ∧ (¬ x2 = 1 → (((x2 = 2 → (post (nI (sg_cn p dc)))) ∧ (¬ x2 = 2 → (post x4)))))))))) :
    ∃ n31 : Nat, wY_segment_31 post x1 x2 (nI dc) gsg gnn gpt gkp bN bP bL bT bS bD bV bPT bTK bLN bKD bSP bWT bIS bMA bSC bNN bNC bKN bKS bSH bIH bHS n31 0 (-1) 0 := by
  have key : ∀ m i (x4 : Int32), i + m = dc → (((∀ j, j < i → ¬ bS j = x1) ∧ x4 = -1) ∨ ∃ e, e < i ∧ bS e = x1 ∧ (∀ j, j < e → ¬ bS j = x1) ∧ x4 = bN e) → wY_segment_31 post x1 x2 (nI dc) gsg gnn gpt gkp bN bP bL bT bS bD bV bPT bTK bLN bKD bSP bWT bIS bMA bSC bNN bNC bKN bKS bSH bIH bHS (m + 1) (nI (sg_cn p i)) x4 (nI i) := by
    intro m
    induction m with
    | zero =>
      intro i x4 h hx
      obtain rfl : i = dc := by omega
      exact br_t (nI_le (Nat.le_refl _) (by omega)) (hp x4 hx)
    | succ m ih =>
      intro i x4 h hx
      have e : (nI i).toNatClampNeg = i := nI_clamp (by omega)
      have hv : vp_in (nI i) 32 := vp_in_nI (by omega) (by omega)
      have I := ih (i + 1)
      have f67 : bS i = x1 → ∀ c : Nat, sg_cn p (i + 1) = c → wY_segment_67 post (wY_segment_31 post x1 x2 (nI dc) gsg gnn gpt gkp bN bP bL bT bS bD bV bPT bTK bLN bKD bSP bWT bIS bMA bSC bNN bNC bKN bKS bSH bIH bHS (m + 1)) x1 x2 (nI c) x4 (nI i) (nI dc) gsg gnn gpt gkp bN bP bL bT bS bD bV bPT bTK bLN bKD bSP bWT bIS bMA bSC bNN bNC bKN bKS bSH bIH bHS := by
        intro hsx c hc
        rw [hc] at I
        rcases hx with ⟨hn, rfl⟩ | ⟨f, hf, hs, hn, rfl⟩
        · refine br_f (by decide) ⟨hv, ?_⟩
          rw [e]
          exact nm_e (nm_r (nI_1 _) (I _ (by omega) (Or.inr ⟨i, by omega, hsx, hn, rfl⟩)))
        · obtain ⟨n, hn1, hn2⟩ := hNn f
          exact br_t (by rw [hn2]; exact nI_pos' hn1) (nm_r (nI_1 _) (I _ (by omega) (Or.inr ⟨f, by omega, hs, hn, rfl⟩)))
      refine br_f (nI_ge (by omega) (by omega)) ⟨hv, ?_⟩
      rw [e]
      refine br_c (fun hc => ⟨hv, br_c (fun hd => ?_) (fun hd => ?_)⟩) (fun hc => ?_)
      · exact f67 hc _ (sg_cn_f (fun z => ((hpd i (by omega)).mp z).2 hd))
      · exact nm_r (nI_1 _) (f67 hc _ (sg_cn_t ((hpd i (by omega)).mpr ⟨hc, hd⟩)))
      · have I' := I x4 (by omega) (by
          rcases hx with ⟨hn, hx⟩ | ⟨f, hf, hs⟩
          · refine Or.inl ⟨fun j hj => ?_, hx⟩
            rcases Nat.lt_or_ge j i with a | a
            · exact hn j a
            · obtain rfl : j = i := by omega
              exact hc
          · exact Or.inr ⟨f, by omega, hs⟩)
        rw [sg_cn_f (fun z => hc ((hpd i (by omega)).mp z).1)] at I'
        exact nm_r (nI_1 _) I'
  exact Exists.intro (dc + 1) (key dc 0 (-1) (Nat.zero_add _) (Or.inl ⟨fun j hj => absurd hj (Nat.not_lt_zero j), rfl⟩))
end
theorem i_vc_segment {k : Nat} {u : SX} {v : SY} (I : i_Rel k u v) (hk : k + 3 ≤ 1536) (v1 : Int32) (v2 : Int32) : wpX_segment (fun r => wpY_segment (fun r' => r' = r ∧ i_Rel (k + 3) u v) v v1 v2) u v1 v2 := by
  have I3 := i_up I
  obtain ⟨dc, m, sg, pt, hc, q, W, D, fsc, fsl, aV, aPT, aPQ, aLQ, aI, aM, aC, aW, aB, aG, aHN, aHS, aHR, aSH, aWQ, aWL, aNN, aNC, bV, bTK, bLN, bKD, bSP, bWT, bIS, bMA, bKN, bSH, bIH, bSC, bKS, bHS, rfl, rfl, hA⟩ := I
  obtain ⟨hm, hpt, hPT, ⟨hD, hT, ⟨st, hI, hst3⟩, hV⟩, hQ, hW, hN, hK, hS⟩ := hA
  have h32 := hI.2.1
  have hsg := sd_I_sg hI
  have hst := hI.1
  unfold wpX_segment
  rcases pk_ix v1 (n := sg) (by omega) with h | h | ⟨c, hc', rfl⟩
  · refine br_t h ?_
    unfold wpY_segment
    exact br_t h ⟨rfl, I3⟩
  · have h0 : ¬ v1 < 0 := fun z => absurd (Int32.lt_of_le_of_lt h z) (nI_pos (by omega))
    refine br_f h0 (br_f (Int32.not_lt.mpr h) ?_)
    unfold wpY_segment
    exact br_f h0 (br_t h ⟨rfl, I3⟩)
  · have h0 : ¬ nI c < 0 := nI_pos (by omega)
    have h1 : nI c < nI sg := nI_lt hc' (by omega)
    have h2 : ¬ nI sg ≤ nI c := nI_ge hc' (by omega)
    have hpd : ∀ j, j < dc → ((fun j => decide (D.2.2.2.2.1 j = nI c ∧ ¬ D.2.2.2.2.2 j = 0)) j = true ↔ (D.2.2.2.2.1 j = nI c ∧ ¬ D.2.2.2.2.2 j = 0)) := fun j _ => decide_eq_true_iff
    have hpc : ∀ j, j < dc → ((fun j => decide (D.2.2.2.2.1 j = nI c)) j = true ↔ D.2.2.2.2.1 j = nI c) := fun j _ => decide_eq_true_iff
    have ec : (nI c).toNatClampNeg = c := nI_clamp (by omega)
    refine br_f h0 (br_t h1 ?_)
    rcases pk_ix v2 (n := 4) (by decide) with h | h | ⟨t, ht, rfl⟩
    · refine br_t h ?_
      unfold wpY_segment
      exact br_f h0 (br_f h2 (yv_0 (n := 3) (Or.inl h) (by decide) (br_t rfl ⟨rfl, I3⟩)))
    · have h0' : ¬ v2 < 0 := fun z => absurd (Int32.lt_of_le_of_lt h z) (by decide)
      refine br_f h0' (br_t (Int32.lt_of_lt_of_le (show (3 : Int32) < nI 4 by decide) h) ?_)
      unfold wpY_segment
      exact br_f h0 (br_f h2 (yv_0 (n := 3) (Or.inr h) (by decide) (br_t rfl ⟨rfl, I3⟩)))
    · refine br_f (nI_pos (by omega)) (br_f (nI_nlt (a := 3) (by omega) (by decide)) ?_)
      obtain rfl | rfl | rfl | rfl : t = 0 ∨ t = 1 ∨ t = 2 ∨ t = 3 := by omega
      · refine br_t rfl ⟨vp_in_nI (by omega) (by omega), ?_⟩
        unfold wpY_segment
        refine br_f h0 (br_f h2 (yv_1 (n := 3) (by omega) (by decide) (br_f (by decide) (yv_seg h32 hD.1 _ hpd (fun x4 _ => br_t rfl ⟨vp_in_nI (by omega) (by omega), ?_, I3⟩)))))
        rw [ec]; exact (hV c hc').symm
      · refine br_f (by decide) (br_t rfl ?_)
        refine xr_countIn h32 _ hpc ?_
        unfold wpY_segment
        refine br_f h0 (br_f h2 (yv_1 (n := 3) (by omega) (by decide) (br_f (by decide) (yv_seg h32 hD.1 _ hpd (fun x4 _ => br_f (by decide) (br_t rfl ?_))))))
        exact yr_many h32 _ hpc ⟨rfl, I3⟩
      · refine br_f (by decide) (br_f (by decide) (br_t rfl ?_))
        refine xr_countDeletedIn h32 _ hpd ?_
        unfold wpY_segment
        exact br_f h0 (br_f h2 (yv_1 (n := 3) (by omega) (by decide) (br_f (by decide) (yv_seg h32 hD.1 _ hpd (fun x4 _ => br_f (by decide) (br_f (by decide) (br_t rfl ⟨rfl, I3⟩)))))))
      · refine br_f (by decide) (br_f (by decide) (br_f (by decide) (br_t rfl ?_)))
        obtain ⟨r, hF⟩ := sd_F_ex D.2.2.2.2.1 (nI c) dc
        refine xr_lowest h32 hF (fun hr => ?_) (fun d hd hr => ?_)
        · unfold wpY_segment
          refine br_f h0 (br_f h2 (yv_1 (n := 3) (by omega) (by decide) (br_f (by decide) (yv_seg h32 hD.1 _ hpd (fun x4 hx => br_f (by decide) (br_f (by decide) (br_f (by decide) ⟨?_, I3⟩)))))))
          rcases hx with hx | ⟨e, he, hs, _⟩
          · exact hx.2
          · rcases hF with hF | ⟨d, hd, hr2, _⟩
            · exact absurd hs (hF.2 e he)
            · rw [hr] at hr2
              exact absurd hr2.symm (sx_nm (by omega))
        · unfold wpY_segment
          refine br_f h0 (br_f h2 (yv_1 (n := 3) (by omega) (by decide) (br_f (by decide) (yv_seg h32 hD.1 _ hpd (fun x4 hx => br_f (by decide) (br_f (by decide) (br_f (by decide) ⟨?_, I3⟩)))))))
          rcases hF with hF | ⟨d', hd', hr2, hs', hn'⟩
          · rw [hr] at hF
            exact absurd hF.1 (sx_nm (by omega))
          · rw [hr] at hr2
            have hdd : d = d' := (nI_eq (by omega) (by omega)).mp hr2
            subst hdd
            rcases hx with hx | ⟨e, he, hs, hn, hx⟩
            · exact absurd hs' (hx.1 d hd)
            · have : e = d := by
                rcases Nat.lt_trichotomy e d with a | a | a
                · exact absurd hs (hn' e a)
                · exact a
                · exact absurd hs' (hn d a)
              rw [hx, this]
end
section
theorem i_vc_delete {k : Nat} {u : SX} {v : SY} (I : i_Rel k u v) (hk : k + 3 ≤ 1536) (v1 : Int32) : wpX_delete (fun r u' => wpY_delete (fun r' v' => r' = r ∧ i_Rel (k + 3) u' v') v v1) u v1 := by
  have I3 := i_up I
  obtain ⟨dc, m, sg, pt, hc, q, W, D, fsc, fsl, aV, aPT, aPQ, aLQ, aI, aM, aC, aW, aB, aG, aHN, aHS, aHR, aSH, aWQ, aWL, aNN, aNC, bV, bTK, bLN, bKD, bSP, bWT, bIS, bMA, bKN, bSH, bIH, bSC, bKS, bHS, rfl, rfl, hA⟩ := I
  obtain ⟨hm, hpt, hPT, ⟨hD, hT, ⟨st, hI, hst3⟩, hV⟩, hQ, hW, hN, hK, hS⟩ := hA
  obtain ⟨r, hF⟩ := sd_F_ex D.1 v1 dc
  have h32 := hI.2.1
  have hP := sd_I_P hI
  unfold wpX_delete
  refine xr_slotOf h32 hF ?_
  rcases sr_slot hF with rfl | ⟨d, hd, rfl⟩
  · refine br_t rfl ?_
    unfold wpY_delete
    refine yr_find h32 hF ?_
    exact br_t sx_m0 ⟨rfl, I3⟩
  · have hv : vp_in (nI d) 32 := vp_in_nI (by omega) (by omega)
    have ed : (nI d).toNatClampNeg = d := nI_clamp (by omega)
    have hr0 : ¬ nI d < 0 := nI_pos (by omega)
    refine br_f (sx_nm (by omega)) ⟨hv, ?_⟩
    rw [ed]
    by_cases hx : D.2.2.2.2.2 d = 0
    · refine br_t hx ⟨hv, ?_⟩
      rcases Nat.lt_or_ge d st with hds | hds
      · obtain ⟨c, hc, ec⟩ := hP.2.2.1 d hds
        refine br_f (by rw [ec]; exact sx_nm hc) ⟨hv, nm_r (by rw [sx_nb (Or.inr rfl)]) ?_⟩
        unfold wpY_delete
        refine yr_find h32 hF ?_
        refine br_f hr0 ⟨hv, ?_⟩
        rw [ed]
        refine br_t hx ⟨hv, br_f (by rw [ec]; exact nI_pos hc) ⟨hv, nm_r (by rw [sx_nb (Or.inr rfl)]) ⟨rfl, sr_mk (W := W) (D := (D.1, D.2.1, D.2.2.1, D.2.2.2.1, D.2.2.2.2.1, upd D.2.2.2.2.2 d 1)) ⟨by omega, hpt, hPT, ⟨⟨hD.1, hD.2.1, hD.2.2.1, ?_⟩, hT, ⟨st, hI, hst3⟩, hV⟩, hQ, hW, hN, hK, hS⟩⟩⟩⟩
        exact sd_upd_all (Q := fun x => x = 0 ∨ x = 1) hD.2.2.2 (Or.inr rfl)
      · have eS := hP.2.2.2 d hds hd
        refine br_t eS ?_
        refine nm_r (nI_1 _) (Exists.intro (dc - (d + 1) + 1) ?_)
        refine xd_remove h32 (dc - (d + 1)) d D (by omega) hD ?_
        unfold wpY_delete
        refine yr_find h32 hF ?_
        refine br_f hr0 ⟨hv, ?_⟩
        rw [ed]
        have e1 : nI dc - 1 = nI (dc - 1) := pk_sub (b := 1) (by omega)
        refine br_t hx ⟨hv, br_t (by rw [eS]; exact sx_m0) (nm_r e1 (Exists.intro (dc - (d + 1) + 1) ?_))⟩
        refine yd_remove (dc := dc - 1) (by omega) (dc - (d + 1)) d D (by omega) hD ?_
        obtain ⟨s1, s2⟩ := sd_rmv_S (dc - (d + 1)) d D st hds
        refine ⟨rfl, sr_mk (W := W) ⟨by omega, hpt, hPT, ⟨sd_rmv_ok _ _ _ hD, sd_rmv_tx _ _ _ hT, ⟨st, ⟨by omega, by omega, fun e he => ?_, fun e a b => ?_, fun c hc => ?_⟩, by omega⟩, hV⟩, hQ, hW, hN, hK, hS⟩⟩
        · rw [s1 e he]; exact hI.2.2.1 e he
        · exact s2 (fun e a b => hP.2.2.2 e a (by omega)) e a (by omega)
        · rw [sg_cn_congr (q := fun j => decide (D.2.2.2.2.1 j < nI c)) st (fun i hi => by show decide ((sd_rmv (dc - (d + 1)) d D).2.2.2.2.1 i < nI c) = _; rw [s1 i hi])]
          exact hI.2.2.2.2 c hc
    · refine br_f hx ?_
      unfold wpY_delete
      refine yr_find h32 hF ?_
      refine br_f hr0 ⟨hv, ?_⟩
      rw [ed]
      exact br_f hx ⟨rfl, I3⟩
theorem i_vc_flush {k : Nat} {u : SX} {v : SY} (I : i_Rel k u v) (hk : k + 3 ≤ 1536) : wpX_flush (fun r u' => wpY_flush (fun r' v' => r' = r ∧ i_Rel (k + 3) u' v') v) u := by
  obtain ⟨dc, m, sg, pt, hc, q, W, D, fsc, fsl, aV, aPT, aPQ, aLQ, aI, aM, aC, aW, aB, aG, aHN, aHS, aHR, aSH, aWQ, aWL, aNN, aNC, bV, bTK, bLN, bKD, bSP, bWT, bIS, bMA, bKN, bSH, bIH, bSC, bKS, bHS, rfl, rfl, hA⟩ := I
  obtain ⟨hm, hpt, hPT, ⟨hD, hT, ⟨st, hI, hst3⟩, hV⟩, hQ, hW, hN, hK, hS⟩ := hA
  obtain ⟨D1, dc1, sg1, V1, NN1, NC1, f1, f2, f3, f4, fX, fY⟩ := v_flush (fnn := nI m) (fpt := nI pt) (fpq := nI q.length) (fsc := fsc) (fsl := fsl) (fhc := nI hc) (aPT := aPT) (aPQ := aPQ) (aLQ := aLQ) (aI := aI) (aM := aM) (aC := aC) (aW := aW) (aB := aB) (aG := aG) (aHN := aHN) (aHS := aHS) (aHR := aHR) (aSH := aSH) (aNN := aNN) (gnn := nI m) (gpt := nI pt) (gkp := nI hc) (bPT := aPT) (bKD := bKD) (bSP := bSP) (bWT := bWT) (bIS := bIS) (bMA := bMA) (bKN := bKN) (bSH := bSH) (bIH := bIH) (bSC := bSC) (bKS := bKS) (bHS := bHS) hD hT hI hV hW hN
  unfold wpX_flush
  refine fX _ ?_
  intro c1 c2 M C V B G
  refine fY _ ?_
  intro V' KD SP WT IS MA SC hV'
  exact ⟨rfl, sr_mk (W := W) ⟨by omega, hpt, hPT, ⟨f1, f2, ⟨dc1, f3, by omega⟩, hV'⟩, hQ, hW, f4, hK, hS⟩⟩
theorem i_vc_settle {k : Nat} {u : SX} {v : SY} (I : i_Rel k u v) (hk : k + 3 ≤ 1536) : wpX_settle (fun r u' => wpY_settle (fun r' v' => r' = r ∧ i_Rel (k + 3) u' v') v) u := by
  obtain ⟨dc, m, sg, pt, hc, q, W, D, fsc, fsl, aV, aPT, aPQ, aLQ, aI, aM, aC, aW, aB, aG, aHN, aHS, aHR, aSH, aWQ, aWL, aNN, aNC, bV, bTK, bLN, bKD, bSP, bWT, bIS, bMA, bKN, bSH, bIH, bSC, bKS, bHS, rfl, rfl, hA⟩ := I
  obtain ⟨hm, hpt, hPT, ⟨hD, hT, ⟨st, hI, hst3⟩, hV⟩, hQ, hW, hN, hK, hS⟩ := hA
  obtain ⟨D1, dc1, sg1, V1, NN1, NC1, f1, f2, f3, f4, fX, fY⟩ := v_flush (fnn := nI m) (fpt := nI pt) (fpq := nI q.length) (fsc := fsc) (fsl := fsl) (fhc := nI hc) (aPT := aPT) (aPQ := aPQ) (aLQ := aLQ) (aI := aI) (aM := aM) (aC := aC) (aW := aW) (aB := aB) (aG := aG) (aHN := aHN) (aHS := aHS) (aHR := aHR) (aSH := aSH) (aNN := aNN) (gnn := nI m) (gpt := nI pt) (gkp := nI hc) (bPT := aPT) (bKD := bKD) (bSP := bSP) (bWT := bWT) (bIS := bIS) (bMA := bMA) (bKN := bKN) (bSH := bSH) (bIH := bIH) (bSC := bSC) (bKS := bKS) (bHS := bHS) hD hT hI hV hW hN
  have hsg := sd_I_sg f3
  have h32 := f3.2.1
  have hall : ∀ j, j < dc1 → ∃ c, c < 2 ^ 31 ∧ D1.2.2.2.2.1 j = nI c := fun j hj => by
    obtain ⟨c, hc, e⟩ := f3.2.2.1 j hj
    exact ⟨c, by omega, e⟩
  obtain ⟨g1, g2, g3, g4, g5⟩ := sd_J_all (D := D1) (f := 0) (by decide) dc1 hall
  have hj := sd_I_join (D := D1) (f := 0) f3 (Nat.zero_le _)
  have hok := sd_ok_jn f1 (nI 0) dc1
  have htx := sd_tx_jn (fr := nI 0) f2 dc1
  -- with no segment there is no document
  have hz : sg1 = 0 → dc1 = 0 := by
    intro h
    rcases Nat.eq_zero_or_pos dc1 with a | a
    · exact a
    · obtain ⟨c, hc, _⟩ := f3.2.2.1 0 a
      omega
  have hnl : (sd_jn (nI 0) D1 dc1).2.1 = (sd_jn (nI 0) D1 dc1).2.2 := by
    rw [sg_cn_0 _ (fun i hi => by
      obtain ⟨c, hc, e⟩ := g3 i hi
      show decide ((sd_jn (nI 0) D1 dc1).1.2.2.2.2.1 i < nI 0) = false
      rw [e]
      exact decide_eq_false (nI_nlt (Nat.zero_le _) (by omega)))] at g5
    omega
  have hcnt : sg_cn (fun j => decide ((sd_jn (nI 0) D1 dc1).1.2.2.2.2.1 j = 0)) (sd_jn (nI 0) D1 dc1).2.1 = (sd_jn (nI 0) D1 dc1).2.1 := sg_cn_all _ (fun i hi => by
    obtain ⟨c, hc, e⟩ := g3 i hi
    have hc0 : c = 0 := by omega
    subst hc0
    show decide ((sd_jn (nI 0) D1 dc1).1.2.2.2.2.1 i = 0) = true
    rw [e]; rfl)
  have hempty : dc1 = 0 → sd_jn (nI 0) D1 dc1 = (D1, 0, 0) := fun h => by rw [h]; rfl
  unfold wpX_settle
  refine fX _ ?_
  intro c1 c2 M C V B G
  -- what Y does from the flush on, for either outcome
  refine xd_join (f := 0) (lev := 3) h32 (by omega) f1 (fun hl => ?_) (fun hl => ?_)
  · unfold wpY_settle
    refine fY _ ?_
    intro V' KD SP WT IS MA SC hV'
    rw [if_neg (by omega)] at hj
    rcases Nat.eq_zero_or_pos sg1 with hs | hs
    · have hd0 := hz hs
      have he := hempty hd0
      subst hs
      refine br_t (nI_le (a := 0) (b := 0) (Nat.le_refl _) (by decide)) (br_t rfl ?_)
      rw [he]
      subst hd0
      exact ⟨rfl, sr_mk (W := W) (D := D1) (dc := 0) (sg := 0) ⟨by omega, hpt, hPT, ⟨f1, f2, ⟨0, f3, by omega⟩, hV'⟩, hQ, hW, f4, hK, hS⟩⟩
    · refine br_f (nI_nle hs (by omega)) ?_
      refine yd_join (f := 0) (lev := 3) h32 (by omega) f1 (fun _ => ?_) (fun hl2 => absurd hl2 (by omega))
      refine br_t rfl ⟨?_, sr_mk (W := W) ⟨by omega, hpt, hPT, ⟨hok, htx, ⟨_, hj.1, by omega⟩, fun j hj => absurd hj (Nat.not_lt_zero j)⟩, hQ, hW, f4, hK, hS⟩⟩
      rw [hnl, hl]; rfl
  · unfold wpY_settle
    refine fY _ ?_
    intro V' KD SP WT IS MA SC hV'
    rw [if_pos hl] at hj
    rcases Nat.eq_zero_or_pos sg1 with hs | hs
    · have he := hempty (hz hs)
      rw [he] at hl
      exact absurd (show 0 < 0 from hl) (by decide)
    · refine br_f (nI_nle hs (by omega)) ?_
      refine yd_join (f := 0) (lev := 3) h32 (by omega) f1 (fun hl2 => absurd hl (by omega)) (fun _ => ?_)
      refine br_f (by decide) ?_
      refine yr_many (by have := hj.1.2.1; exact this) (fun j => decide ((sd_jn (nI 0) D1 dc1).1.2.2.2.2.1 j = 0)) (fun j _ => decide_eq_true_iff) ?_
      refine ⟨by rw [hcnt], sr_mk (W := W) ⟨by omega, hpt, hPT, ⟨hok, htx, ⟨_, hj.1, by omega⟩, fun j hj => ?_⟩, hQ, hW, f4, hK, hS⟩⟩
      have hj0 : j = 0 := by omega
      subst hj0
      rw [pk_us, pk_us]
end
section
theorem sd_I_add {S : Nat → Int32} {st dc sg : Nat} (h : sd_I S st dc sg) (hd : dc < 32) : sd_I (upd S dc (-1)) st (dc + 1) sg := by
  obtain ⟨h1, h2, h3, h4, h5⟩ := h
  refine ⟨by omega, by omega, fun d hd => ?_, fun d a b => ?_, fun c hc => ?_⟩
  · rw [pk_un (by omega)]; exact h3 d hd
  · by_cases e : d = dc
    · subst e; exact pk_us
    · rw [pk_un e]; exact h4 d a (by omega)
  · rw [sg_cn_congr (q := fun j => decide (S j < nI c)) st (fun i hi => by show decide (upd S dc (-1) i < nI c) = _; rw [pk_un (by omega)])]
    exact h5 c hc
theorem i_vc_add {k : Nat} {u : SX} {v : SY} (I : i_Rel k u v) (hk : k + 3 ≤ 1536) (v1 : Int32) : wpX_add (fun r u' => wpY_add (fun r' v' => r' = r ∧ i_Rel (k + 3) u' v') v v1) u v1 := by
  have I3 := i_up I
  obtain ⟨dc, m, sg, pt, hc, q, W, D, fsc, fsl, aV, aPT, aPQ, aLQ, aI, aM, aC, aW, aB, aG, aHN, aHS, aHR, aSH, aWQ, aWL, aNN, aNC, bV, bTK, bLN, bKD, bSP, bWT, bIS, bMA, bKN, bSH, bIH, bSC, bKS, bHS, rfl, rfl, hA⟩ := I
  obtain ⟨hm, hpt, hPT, ⟨hD, hT, ⟨st, hI, hst3⟩, hV⟩, hQ, hW, hN, hK, hS⟩ := hA
  have h32 := hI.2.1
  unfold wpX_add
  rcases pk_ix v1 (n := 100) (by decide) with h | h | ⟨pr, hpr, rfl⟩
  · refine br_t h ?_
    unfold wpY_add
    exact yv_0 (n := 99) (Or.inl h) (by decide) (br_t rfl ⟨rfl, I3⟩)
  · have h0 : ¬ v1 < 0 := fun z => absurd (Int32.lt_of_le_of_lt h z) (by decide)
    refine br_f h0 (br_f (Int32.not_lt.mpr h) ?_)
    unfold wpY_add
    exact yv_0 (n := 99) (Or.inr h) (by decide) (br_t rfl ⟨rfl, I3⟩)
  · refine br_f (nI_pos (by omega)) (br_t (nI_lt (b := 100) hpr (by decide)) ?_)
    rcases Nat.lt_or_ge dc 32 with hd | hd
    · refine br_t (nI_lt (b := 32) hd (by decide)) (nm_r (nI_1 _) ?_)
      have hI' := sd_I_add hI hd
      have hD' : sd_ok (upd D.1 dc (nI m), upd D.2.1 dc (nI pr), upd D.2.2.1 dc (nI pt), sd_cy D.2.2.2.1 (12 * dc) aPT 0 pt, upd D.2.2.2.2.1 dc (-1), upd D.2.2.2.2.2 dc 0) :=
        ⟨sd_upd_all (Q := fun x => ∃ n, n < 2 ^ 31 ∧ x = nI n) hD.1 ⟨m, by omega, rfl⟩, sd_upd_all (Q := fun x => ∃ n, n < 100 ∧ x = nI n) hD.2.1 ⟨pr, hpr, rfl⟩, sd_upd_all (Q := fun x => ∃ n, n ≤ 12 ∧ x = nI n) hD.2.2.1 ⟨pt, hpt, rfl⟩, sd_upd_all (Q := fun x => x = 0 ∨ x = 1) hD.2.2.2 (Or.inl rfl)⟩
      have hT' : sd_tx (sd_cy D.2.2.2.1 (12 * dc) aPT 0 pt) := sd_tx_cy hT hPT
      generalize hDD : ((upd D.1 dc (nI m), upd D.2.1 dc (nI pr), upd D.2.2.1 dc (nI pt), sd_cy D.2.2.2.1 (12 * dc) aPT 0 pt, upd D.2.2.2.2.1 dc (-1), upd D.2.2.2.2.2 dc 0) : sd_D) = D' at hD'
      have hI2 : sd_I D'.2.2.2.2.1 st (dc + 1) sg := by rw [← hDD]; exact hI'
      have hT2 : sd_tx D'.2.2.2.1 := by rw [← hDD]; exact hT'
      have hnum : D'.1 dc = nI m := by rw [← hDD]; exact pk_us
      have hP' := sd_I_P hI2
      have h1 := hI2.1
      -- Y up to the count
      have Yto : ∀ P : Int32 → SY → Prop, wpY_many (fun r_19 => (r_19 = 4 → wpY_flush (fun _ u => P (nI m) u) (nI (dc + 1), nI sg, nI (m + 1), 0, nI hc, D'.1, D'.2.1, D'.2.2.1, D'.2.2.2.1, D'.2.2.2.2.1, D'.2.2.2.2.2, bV, aPT, bTK, bLN, bKD, bSP, bWT, bIS, bMA, bSC, aNN, aNC, bKN, bKS, bSH, bIH, bHS)) ∧ (¬ r_19 = 4 → P (nI m) (nI (dc + 1), nI sg, nI (m + 1), 0, nI hc, D'.1, D'.2.1, D'.2.2.1, D'.2.2.2.1, D'.2.2.2.2.1, D'.2.2.2.2.2, bV, aPT, bTK, bLN, bKD, bSP, bWT, bIS, bMA, bSC, aNN, aNC, bKN, bKS, bSH, bIH, bHS))) (nI (dc + 1), nI sg, nI (m + 1), 0, nI hc, D'.1, D'.2.1, D'.2.2.1, D'.2.2.2.1, D'.2.2.2.2.1, D'.2.2.2.2.2, bV, aPT, bTK, bLN, bKD, bSP, bWT, bIS, bMA, bSC, aNN, aNC, bKN, bKS, bSH, bIH, bHS) (-1) →
          wpY_add P (nI dc, nI sg, nI m, nI pt, nI hc, D.1, D.2.1, D.2.2.1, D.2.2.2.1, D.2.2.2.2.1, D.2.2.2.2.2, bV, aPT, bTK, bLN, bKD, bSP, bWT, bIS, bMA, bSC, aNN, aNC, bKN, bKS, bSH, bIH, bHS) (nI pr) := by
        intro P hP
        unfold wpY_add
        have hv : vp_in (nI dc) 32 := vp_in_nI hd (by omega)
        have ed : (nI dc).toNatClampNeg = dc := nI_clamp (by omega)
        refine yv_1 (n := 99) (by omega) (by decide) (br_f (by decide) (br_f (fun z => by have := (nI_eq (b := 32) (by omega) (by decide)).mp z; omega) (nm_r (nI_1 _) (nm_r (nI_1 _) ⟨hv, ?_⟩))))
        rw [ed]
        have key : ∀ n i, i + n = pt → wY_add_72 P (nI dc) (nI (dc + 1)) (nI sg) (nI (m + 1)) (nI pt) (nI hc) (n + 1) (nI i) (upd D.1 dc (nI m)) (upd D.2.1 dc (nI pr)) (upd D.2.2.1 dc (nI pt)) (sd_cy D.2.2.2.1 (12 * dc) aPT 0 i) D.2.2.2.2.1 D.2.2.2.2.2 bV aPT bTK bLN bKD bSP bWT bIS bMA bSC aNN aNC bKN bKS bSH bIH bHS := by
          intro n
          induction n with
          | zero =>
            intro i h
            obtain rfl : i = pt := by omega
            refine br_t (nI_le (Nat.le_refl _) (by omega)) ⟨hv, ?_⟩
            rw [ed]
            subst hDD
            exact nm_e ⟨hv, nm_r (by rw [sx_nb (Or.inl rfl)]) ⟨hv, nm_r pk_us hP⟩⟩
          | succ n ih =>
            intro i h
            have e3 := sd_cy_s D.2.2.2.1 (12 * dc) aPT 0 i
            rw [Nat.zero_add] at e3
            refine br_f (nI_ge (by omega) (by omega)) ?_
            rw [sy_ix, nI_clamp (n := i) (by omega), nI_clamp (n := 12 * dc + i) (by omega)]
            exact ⟨vp_in_nI (by omega) (by omega), vp_in_nI (by omega) (by omega), nm_r e3 (nm_r (nI_1 _) (ih (i + 1) (by omega)))⟩
        have k0 := key pt 0 (Nat.zero_add _)
        rw [sd_cy_0] at k0
        exact nm_e ⟨hv, nm_e ⟨hv, nm_e (Exists.intro (pt + 1) k0)⟩⟩
      refine xd_append hd hpt ?_
      have hcount : ∀ P : Int32 → Prop, P (nI (dc + 1 - st)) → P (nI (sg_cn (fun j => decide (st ≤ j)) (dc + 1))) := fun P hP => by rw [sd_P_c h1]; exact hP
      have Xto : wpX_countIn (fun r_38 => (r_38 < 4 → wpY_add (fun r' v' => r' = nI m ∧ i_Rel (k + 3) (nI (dc + 1), nI (m + 1), nI sg, 0, nI q.length, fsc, fsl, nI hc, D'.1, D'.2.1, D'.2.2.1, D'.2.2.2.1, D'.2.2.2.2.1, D'.2.2.2.2.2, aV, aPT, aPQ, aLQ, aI, aM, aC, aW, aB, aG, aHN, aHS, aHR, aSH, aWQ, aWL, aNN, aNC) v') (nI dc, nI sg, nI m, nI pt, nI hc, D.1, D.2.1, D.2.2.1, D.2.2.2.1, D.2.2.2.2.1, D.2.2.2.2.2, bV, aPT, bTK, bLN, bKD, bSP, bWT, bIS, bMA, bSC, aNN, aNC, bKN, bKS, bSH, bIH, bHS) (nI pr)) ∧ (¬ r_38 < 4 → wpX_flushBuffer (fun u' => wpY_add (fun r' v' => r' = nI m ∧ i_Rel (k + 3) u' v') (nI dc, nI sg, nI m, nI pt, nI hc, D.1, D.2.1, D.2.2.1, D.2.2.2.1, D.2.2.2.2.1, D.2.2.2.2.2, bV, aPT, bTK, bLN, bKD, bSP, bWT, bIS, bMA, bSC, aNN, aNC, bKN, bKS, bSH, bIH, bHS) (nI pr)) (nI (dc + 1), nI (m + 1), nI sg, 0, nI q.length, fsc, fsl, nI hc, D'.1, D'.2.1, D'.2.2.1, D'.2.2.2.1, D'.2.2.2.2.1, D'.2.2.2.2.2, aV, aPT, aPQ, aLQ, aI, aM, aC, aW, aB, aG, aHN, aHS, aHR, aSH, aWQ, aWL, aNN, aNC))) (nI (dc + 1), nI (m + 1), nI sg, 0, nI q.length, fsc, fsl, nI hc, D'.1, D'.2.1, D'.2.2.1, D'.2.2.2.1, D'.2.2.2.2.1, D'.2.2.2.2.2, aV, aPT, aPQ, aLQ, aI, aM, aC, aW, aB, aG, aHN, aHS, aHR, aSH, aWQ, aWL, aNN, aNC) (-1) := by
        refine xr_countIn (by omega) (fun j => decide (st ≤ j)) (sd_P_cn hP') ?_
        refine hcount (fun r_38 => (r_38 < 4 → _) ∧ (¬ r_38 < 4 → _)) ?_
        rcases Nat.lt_or_ge (dc + 1 - st) 4 with h4 | h4
        · refine br_t (nI_lt (b := 4) h4 (by decide)) (Yto _ ?_)
          refine yr_many (by omega) (fun j => decide (st ≤ j)) (sd_P_cn hP') ?_
          refine hcount (fun r_19 => (r_19 = 4 → _) ∧ (¬ r_19 = 4 → _)) ?_
          exact br_f (fun z => by have := (nI_eq (b := 4) (by omega) (by decide)).mp z; omega) ⟨rfl, sr_mk (W := W) (pt := 0) ⟨by omega, by omega, hPT, ⟨hD', hT2, ⟨st, hI2, by omega⟩, hV⟩, hQ, hW, hN, hK, hS⟩⟩
        · obtain ⟨D1, dc1, sg1, V1, NN1, NC1, f1, f2, f3, f4, fX, fY⟩ := v_flush (fnn := nI (m + 1)) (fpt := 0) (fpq := nI q.length) (fsc := fsc) (fsl := fsl) (fhc := nI hc) (aPT := aPT) (aPQ := aPQ) (aLQ := aLQ) (aI := aI) (aM := aM) (aC := aC) (aW := aW) (aB := aB) (aG := aG) (aHN := aHN) (aHS := aHS) (aHR := aHR) (aSH := aSH) (aNN := aNN) (gnn := nI (m + 1)) (gpt := 0) (gkp := nI hc) (bPT := aPT) (bKD := bKD) (bSP := bSP) (bWT := bWT) (bIS := bIS) (bMA := bMA) (bKN := bKN) (bSH := bSH) (bIH := bIH) (bSC := bSC) (bKS := bKS) (bHS := bHS) hD' hT2 hI2 hV hW hN
          have e4 : dc + 1 - st = 4 := by omega
          rw [e4]
          refine br_f (by decide) (fX _ ?_)
          intro c1 c2 M C V B G
          refine Yto _ ?_
          refine yr_many (by omega) (fun j => decide (st ≤ j)) (sd_P_cn hP') ?_
          refine hcount (fun r_19 => (r_19 = 4 → _) ∧ (¬ r_19 = 4 → _)) ?_
          rw [e4]
          refine br_t rfl (fY _ ?_)
          intro V' KD SP WT IS MA SC hV'
          exact ⟨rfl, sr_mk (W := W) (pt := 0) ⟨by omega, by omega, hPT, ⟨f1, f2, ⟨dc1, f3, by omega⟩, hV'⟩, hQ, hW, f4, hK, hS⟩⟩
      subst hDD
      exact Xto
    · obtain rfl : dc = 32 := by omega
      refine br_f (nI_nlt (b := 32) (by omega) (by decide)) ?_
      unfold wpY_add
      exact yv_1 (n := 99) (by omega) (by decide) (br_f (by decide) (br_t rfl ⟨rfl, I3⟩))
end
section
theorem sk_comb {H : Nat → Bool} {rk N : Nat → Int32} {S : Nat → Nat} {lim dc hc : Nat} {hN hS hR KN : Nat → Int32} {KS : Nat → Int64} (hl : lim ≤ 10) (h : rk_I H rk N (fun e => nI (S e)) lim dc hc hN hS hR)
    (hK : ∀ e, e < dc → H e = true → rk_bf H (fun i => (rk i).toInt) dc e < lim → KN (rk_bf H (fun i => (rk i).toInt) dc e) = N e ∧ KS (rk_bf H (fun i => (rk i).toInt) dc e) = lN (S e)) : hc = min (sg_cn H dc) lim ∧ sr_K hc hN hS KN KS := by
  obtain ⟨h1, h2⟩ := h
  refine ⟨h1, by omega, fun p hp => ?_⟩
  obtain ⟨e, he, hH, hb, e1, e2, _⟩ := h2 p hp
  obtain ⟨k1, k2⟩ := hK e he hH (by omega)
  rw [hb] at k1 k2
  refine ⟨by rw [e1, k1], ?_⟩
  rw [e2, k2, lN_i]
theorem sr_H_cy {a s : Nat → Int32} {b c m n : Nat} {q : List Nat} (h : sr_H a b q) (hd : b + q.length ≤ c ∨ c + m ≤ b) : sr_H (sd_cy a c s n m) b q := fun i hi => by
  rw [sd_cy_out (by omega)]; exact h i hi
theorem sr_H_mv {a s : Nat → Int32} {b c : Nat} {q : List Nat} (h : sr_H s c q) : sr_H (sd_cy a b s c q.length) b q := fun i hi => by
  rw [sd_cy_in hi]; exact h i hi
def sw_up (W : Nat → List Nat) (w : Nat) (q : List Nat) : Nat → List Nat := fun x => if x = w then q else W x
theorem sw_s (W : Nat → List Nat) (w : Nat) (q : List Nat) : sw_up W w q w = q := if_pos rfl
theorem sw_n (W : Nat → List Nat) {w x : Nat} (q : List Nat) (h : x ≠ w) : sw_up W w q x = W x := if_neg h
theorem i_vc_search {k : Nat} {u : SX} {v : SY} (I : i_Rel k u v) (hk : k + 3 ≤ 1536) (v1 : Int32) (v2 : Int32) : wpX_search (fun r u' => wpY_search (fun r' v' => r' = r ∧ i_Rel (k + 3) u' v') v v1 (lw_bz v2)) u v1 (lw_bz v2) := by
  have I3 := i_up I
  obtain ⟨dc, m, sg, pt, hc, q, W, D, fsc, fsl, aV, aPT, aPQ, aLQ, aI, aM, aC, aW, aB, aG, aHN, aHS, aHR, aSH, aWQ, aWL, aNN, aNC, bV, bTK, bLN, bKD, bSP, bWT, bIS, bMA, bKN, bSH, bIH, bSC, bKS, bHS, rfl, rfl, hA⟩ := I
  obtain ⟨hm, hpt, hPT, ⟨hD, hT, ⟨st, hI, hst3⟩, hV⟩, hQ, hW, hN, hK, hS⟩ := hA
  have h32 := hI.2.1
  have hP := sd_I_P hI
  obtain ⟨q1, q2, q3, q4, q5⟩ := hQ
  unfold wpX_search
  rcases pk_ix v1 (n := 11) (by decide) with h | h | ⟨lim, hlim, rfl⟩
  · refine xv_l0 (Or.inl h) (br_t rfl ?_)
    unfold wpY_search
    exact yv_0 (n := 10) (Or.inl h) (by decide) (br_t rfl ⟨rfl, I3⟩)
  · refine xv_l0 (Or.inr h) (br_t rfl ?_)
    unfold wpY_search
    exact yv_0 (n := 10) (Or.inr h) (by decide) (br_t rfl ⟨rfl, I3⟩)
  · have hLN5 : upd (upd bLN 5 (nI q.length)) 0 0 5 = nI q.length := by rw [pk_un (by decide), pk_us]
    have hTK5 : sr_H (sd_cy bTK (16 * 5) bTK 0 q.length) (16 * 5) q := sr_H_mv q5
    have hW' : sr_W W aWQ aWL (sd_cy bTK (16 * 5) bTK 0 q.length) (upd (upd bLN 5 (nI q.length)) 0 0) := by
      intro w hw
      obtain ⟨w1, w2, w3, w4, w5, w6, w7⟩ := hW w hw
      exact ⟨w1, w2, w3, w4, by rw [pk_un (by omega), pk_un (by omega)]; exact w5, w6, sr_H_cy w7 (by omega)⟩
    have hQ' : sr_Q [] aPQ (sd_cy bTK (16 * 5) bTK 0 q.length) (upd (upd bLN 5 (nI q.length)) 0 0) := ⟨Nat.zero_le _, fun t ht => absurd ht (by simp), pk_us, sr_H_0 _ _, sr_H_0 _ _⟩
    refine xv_l1 hlim (br_f (by decide) ?_)
    refine xe_expr q1 q2 q4 (fun hv I => ?_) (fun hv I => ?_)
    · obtain ⟨kk, hkk⟩ := hv
      refine br_f (by decide) ?_
      refine xf_pendingQuery hD hP q1 q4 q2 hkk (show lim ≤ 10 by omega) ?_
      intro c1 c2 hc' M C V B G hN' hS' hR' SH hRk hSh
      unfold wpY_search
      refine yv_1 (n := 10) (by omega) (by decide) (br_f (by decide) ?_)
      refine yx_move (li := 5) (by omega) (by omega) q1 q3 ?_
      refine yx_expr (li := 5) (by omega) q1 q2 hLN5 hTK5 (fun _ K => ?_) (fun hn => absurd ⟨kk, hkk⟩ hn)
      refine br_f (by decide) ?_
      refine yl_look hD hP (by omega) hLN5 hTK5 q2 hkk (show lim ≤ 10 by omega) ?_
      intro KD SP WT IS MA KN SH' IH SC KS HS hKK hSH'
      obtain ⟨ehc, hKr⟩ := sk_comb (show lim ≤ 10 by omega) hRk hKK
      rw [← ehc]
      exact ⟨rfl, sr_mk (q := []) (W := W) ⟨by omega, hpt, hPT, ⟨hD, hT, ⟨st, hI, hst3⟩, hV⟩, hQ', hW', hN, hKr, fun k hk => by rw [hSh k hk, hSH' k hk]⟩⟩
    · refine br_t rfl ?_
      unfold wpY_search
      refine yv_1 (n := 10) (by omega) (by decide) (br_f (by decide) ?_)
      refine yx_move (li := 5) (by omega) (by omega) q1 q3 ?_
      refine yx_expr (li := 5) (by omega) q1 q2 hLN5 hTK5 (fun hy => absurd hy hv) (fun _ K => ?_)
      exact br_t rfl ⟨rfl, sr_mk (q := []) (W := W) ⟨by omega, hpt, hPT, ⟨hD, hT, ⟨st, hI, hst3⟩, hV⟩, hQ', hW', hN, hK, hS⟩⟩
theorem i_vc_like {k : Nat} {u : SX} {v : SY} (I : i_Rel k u v) (hk : k + 3 ≤ 1536) (v1 : Int32) (v2 : Int32) : wpX_like (fun r u' => wpY_like (fun r' v' => r' = r ∧ i_Rel (k + 3) u' v') v v1 v2) u v1 v2 := by
  have I3 := i_up I
  obtain ⟨dc, m, sg, pt, hc, q, W, D, fsc, fsl, aV, aPT, aPQ, aLQ, aI, aM, aC, aW, aB, aG, aHN, aHS, aHR, aSH, aWQ, aWL, aNN, aNC, bV, bTK, bLN, bKD, bSP, bWT, bIS, bMA, bKN, bSH, bIH, bSC, bKS, bHS, rfl, rfl, hA⟩ := I
  obtain ⟨hm, hpt, hPT, ⟨hD, hT, ⟨st, hI, hst3⟩, hV⟩, hQ, hW, hN, hK, hS⟩ := hA
  obtain ⟨r, hF⟩ := sd_F_ex D.1 v1 dc
  have h32 := hI.2.1
  have hP := sd_I_P hI
  have hL := sd_ok_L hD
  unfold wpX_like
  refine xr_slotOf h32 hF ?_
  rcases sr_slot hF with rfl | ⟨d, hd, rfl⟩
  · refine br_t rfl ?_
    unfold wpY_like
    refine yr_find h32 hF ?_
    exact br_t sx_m0 ⟨rfl, I3⟩
  · have hv : vp_in (nI d) 32 := vp_in_nI (by omega) (by omega)
    have ed : (nI d).toNatClampNeg = d := nI_clamp (by omega)
    have hr0 : ¬ nI d < 0 := nI_pos (by omega)
    obtain ⟨hl1, hl2⟩ := hL d
    refine br_f (sx_nm (by omega)) ⟨hv, ?_⟩
    rw [ed, hl1]
    rcases Nat.eq_zero_or_pos (sd_n D.2.2.1 d) with hz | hpos
    · refine br_t (by rw [hz]; rfl) ?_
      unfold wpY_like
      refine yr_find h32 hF ?_
      refine br_f hr0 ⟨hv, ?_⟩
      rw [ed]
      exact br_t (by rw [hl1, hz]; rfl) ⟨rfl, I3⟩
    · refine br_f (nI_ne0 hpos (by omega)) ?_
      have hY0 : ¬ D.2.2.1 d = 0 := by rw [hl1]; exact nI_ne0 hpos (by omega)
      rcases pk_ix v2 (n := 11) (by decide) with h | h | ⟨lim, hlim, rfl⟩
      · refine xv_l0 (Or.inl h) (br_t rfl ?_)
        unfold wpY_like
        refine yr_find h32 hF ?_
        refine br_f hr0 ⟨hv, ?_⟩
        rw [ed]
        exact br_f hY0 (yv_0 (n := 10) (Or.inl h) (by decide) (br_t rfl ⟨rfl, I3⟩))
      · refine xv_l0 (Or.inr h) (br_t rfl ?_)
        unfold wpY_like
        refine yr_find h32 hF ?_
        refine br_f hr0 ⟨hv, ?_⟩
        rw [ed]
        exact br_f hY0 (yv_0 (n := 10) (Or.inr h) (by decide) (br_t rfl ⟨rfl, I3⟩))
      · refine xv_l1 hlim (br_f (by decide) ?_)
        refine xe_like (by omega) hL hT hpos ?_
        intro LQ hLQ
        have hne := sl_ws_ne hT hpos
        have h8 : ∀ w, w ∈ sl_ws D d 8 → w < 8 := fun w hw => sl_ws_lt hw
        have hlen := sv_lx_len (sl_ws D d 8) hne
        have hl8 : (sl_ws D d 8).length ≤ 8 := by rw [sl_ws_len]; exact sg_cn_le _ _
        obtain ⟨kk, hkk⟩ := sv_lx_b (sl_ws D d 8) hne h8
        refine xf_likeQuery (l := sv_lx (sl_ws D d 8)) hD hP (by omega) hLQ (sv_lx_tk _ h8) hkk (show lim ≤ 10 by omega) ?_
        intro c1 c2 hc' M C V B G hN' hS' hR' SH hRk hSh
        have eM : sf_M D st (sv_lx (sl_ws D d 8)) = sf_M D st (sv_ly (sl_ws D d 8)) := funext (fun e => (sv_like (sl_ws D d 8) hne h8).1)
        have eS : sf_S D st (sv_lx (sl_ws D d 8)) = sf_S D st (sv_ly (sl_ws D d 8)) := funext (fun e => (sv_like (sl_ws D d 8) hne h8).2)
        have eH : sf_H D st (nI d) (sv_lx (sl_ws D d 8)) = sf_H D st (nI d) (sv_ly (sl_ws D d 8)) := by
          funext e
          unfold sf_H
          rw [eM]
        have eR : sf_R D st 0 (sv_lx (sl_ws D d 8)) = sf_R D st 0 (sv_ly (sl_ws D d 8)) := by
          funext e
          unfold sf_R
          rw [eS]
        have eC : sf_C D st (nI d) (sv_lx (sl_ws D d 8)) = sf_C D st (nI d) (sv_ly (sl_ws D d 8)) := by
          funext kx e
          unfold sf_C
          rw [eH]
        rw [eH, eR, eS] at hRk
        rw [eC] at hSh
        rw [eH]
        unfold wpY_like
        refine yr_find h32 hF ?_
        refine br_f hr0 ⟨hv, ?_⟩
        rw [ed]
        refine br_f hY0 (yv_1 (n := 10) (by omega) (by decide) (br_f (by decide) ?_))
        refine yx_like hd hD hT hpos hP (show lim ≤ 10 by omega) ?_
        intro TK KD SP WT IS MA KN SH' IH SC KS HS hlow hKK hSH'
        obtain ⟨ehc, hKr⟩ := sk_comb (show lim ≤ 10 by omega) hRk hKK
        rw [← ehc]
        obtain ⟨q1, q2, q3, q4, q5⟩ := hQ
        refine ⟨rfl, sr_mk (W := W) ⟨by omega, hpt, hPT, ⟨hD, hT, ⟨st, hI, hst3⟩, hV⟩, ⟨q1, q2, by rw [pk_un (by decide)]; exact q3, q4, sr_H_fr q5 (fun i hi => hlow _ (by omega))⟩, ?_, hN, hKr, fun k hk => by rw [hSh k hk, hSH' k hk]⟩⟩
        intro w hw
        obtain ⟨w1, w2, w3, w4, w5, w6, w7⟩ := hW w hw
        exact ⟨w1, w2, w3, w4, by rw [pk_un (by omega)]; exact w5, w6, sr_H_fr w7 (fun i hi => hlow _ (by omega))⟩
theorem i_vc_watch {k : Nat} {u : SX} {v : SY} (I : i_Rel k u v) (hk : k + 3 ≤ 1536) (v1 : Int32) : wpX_watch (fun r u' => wpY_watch (fun r' v' => r' = r ∧ i_Rel (k + 3) u' v') v v1) u v1 := by
  have I3 := i_up I
  obtain ⟨dc, m, sg, pt, hc, q, W, D, fsc, fsl, aV, aPT, aPQ, aLQ, aI, aM, aC, aW, aB, aG, aHN, aHS, aHR, aSH, aWQ, aWL, aNN, aNC, bV, bTK, bLN, bKD, bSP, bWT, bIS, bMA, bKN, bSH, bIH, bSC, bKS, bHS, rfl, rfl, hA⟩ := I
  obtain ⟨hm, hpt, hPT, ⟨hD, hT, ⟨st, hI, hst3⟩, hV⟩, hQ, hW, hN, hK, hS⟩ := hA
  obtain ⟨q1, q2, q3, q4, q5⟩ := hQ
  unfold wpX_watch
  rcases pk_ix v1 (n := 4) (by decide) with h | h | ⟨w, hw, rfl⟩
  · refine xv_h0 (Or.inl h) (br_t rfl ?_)
    unfold wpY_watch
    exact yv_0 (n := 3) (Or.inl h) (by decide) (br_t rfl ⟨rfl, I3⟩)
  · refine xv_h0 (Or.inr h) (br_t rfl ?_)
    unfold wpY_watch
    exact yv_0 (n := 3) (Or.inr h) (by decide) (br_t rfl ⟨rfl, I3⟩)
  · have hvw : vp_in (nI w) 4 := vp_in_nI hw (by decide)
    have ew : (nI w).toNatClampNeg = w := nI_clamp (by omega)
    have e1w : 1 + nI w = nI (1 + w) := nI_add 1 w
    -- a right query, or none: X copies
    have goX : ∀ (II : Nat → Int32) (P : Int32 → SX → Prop), P (nI q.length) (nI dc, nI m, nI sg, nI pt, 0, fsc, fsl, nI hc, D.1, D.2.1, D.2.2.1, D.2.2.2.1, D.2.2.2.2.1, D.2.2.2.2.2, aV, aPT, aPQ, aLQ, II, aM, aC, aW, aB, aG, aHN, aHS, aHR, aSH, sd_cy aWQ (12 * w) aPQ 0 q.length, upd aWL w (nI q.length), aNN, upd aNC w 0) →
        wX_watch_25 P (nI w) (nI q.length) (nI dc) (nI m) (nI sg) (nI pt) (nI q.length) fsc fsl (nI hc) D.1 D.2.1 D.2.2.1 D.2.2.2.1 D.2.2.2.2.1 D.2.2.2.2.2 aV aPT aPQ aLQ II aM aC aW aB aG aHN aHS aHR aSH aWQ aWL aNN aNC := by
      intro II P hPp
      refine br_f (by decide) ?_
      have key : ∀ n i, i + n = q.length → wX_watch_46 P (nI w) (nI q.length) (nI dc) (nI m) (nI sg) (nI pt) 0 fsc fsl (nI hc) (n + 1) (nI i) D.1 D.2.1 D.2.2.1 D.2.2.2.1 D.2.2.2.2.1 D.2.2.2.2.2 aV aPT aPQ aLQ II aM aC aW aB aG aHN aHS aHR aSH (sd_cy aWQ (12 * w) aPQ 0 i) aWL aNN aNC := by
        intro n
        induction n with
        | zero =>
          intro i h
          obtain rfl : i = q.length := by omega
          refine br_t (nI_le (Nat.le_refl _) (by omega)) ⟨hvw, ?_⟩
          rw [ew]
          exact nm_e ⟨hvw, nm_e hPp⟩
        | succ n ih =>
          intro i h
          have e3 := sd_cy_s aWQ (12 * w) aPQ 0 i
          rw [Nat.zero_add] at e3
          refine br_f (nI_ge (by omega) (by omega)) ?_
          rw [sx_ix, nI_clamp (n := i) (by omega), nI_clamp (n := 12 * w + i) (by omega)]
          exact ⟨vp_in_nI (by omega) (by omega), vp_in_nI (by omega) (by omega), nm_r e3 (nm_r (nI_1 _) (ih (i + 1) (by omega)))⟩
      have k0 := key q.length 0 (Nat.zero_add _)
      rw [sd_cy_0] at k0
      exact Exists.intro (q.length + 1) k0
    -- and Y moves
    have goY : ∀ (K : Nat → Int32) (P : Int32 → SY → Prop), P (nI q.length) (nI dc, nI sg, nI m, nI pt, nI hc, D.1, D.2.1, D.2.2.1, D.2.2.2.1, D.2.2.2.2.1, D.2.2.2.2.2, bV, aPT, sd_cy bTK (16 * (1 + w)) bTK 0 q.length, upd (upd (upd bLN (1 + w) (nI q.length)) 0 0) 0 0, K, bSP, bWT, bIS, bMA, bSC, aNN, upd aNC w 0, bKN, bKS, bSH, bIH, bHS) →
        wY_watch_28 P (nI w) (nI dc) (nI sg) (nI m) (nI pt) (nI hc) D.1 D.2.1 D.2.2.1 D.2.2.2.1 D.2.2.2.2.1 D.2.2.2.2.2 bV aPT bTK bLN K bSP bWT bIS bMA bSC aNN aNC bKN bKS bSH bIH bHS := by
      intro K P hPp
      refine br_f (by decide) ?_
      rw [e1w]
      refine yx_move (li := 1 + w) (by omega) (by omega) q1 q3 ⟨hvw, ?_⟩
      rw [ew]
      refine nm_e (nm_e (br_f (by decide) ⟨by rw [e1w]; exact vp_in_nI (by omega) (by omega), ?_⟩))
      rw [e1w, nI_clamp (by omega), pk_un (by omega), pk_un (by omega), pk_us]
      exact hPp
    -- what holds after it
    have fin : (q = [] ∨ ∃ kk, sq_b q = some [kk]) → ∀ (II K : Nat → Int32), i_Rel (k + 3) (nI dc, nI m, nI sg, nI pt, 0, fsc, fsl, nI hc, D.1, D.2.1, D.2.2.1, D.2.2.2.1, D.2.2.2.2.1, D.2.2.2.2.2, aV, aPT, aPQ, aLQ, II, aM, aC, aW, aB, aG, aHN, aHS, aHR, aSH, sd_cy aWQ (12 * w) aPQ 0 q.length, upd aWL w (nI q.length), aNN, upd aNC w 0) (nI dc, nI sg, nI m, nI pt, nI hc, D.1, D.2.1, D.2.2.1, D.2.2.2.1, D.2.2.2.2.1, D.2.2.2.2.2, bV, aPT, sd_cy bTK (16 * (1 + w)) bTK 0 q.length, upd (upd (upd bLN (1 + w) (nI q.length)) 0 0) 0 0, K, bSP, bWT, bIS, bMA, bSC, aNN, upd aNC w 0, bKN, bKS, bSH, bIH, bHS) := by
      intro hq II K
      refine sr_mk (q := []) (W := sw_up W w q) ⟨by omega, hpt, hPT, ⟨hD, hT, ⟨st, hI, hst3⟩, hV⟩, ⟨Nat.zero_le _, fun t ht => absurd ht (by simp), pk_us, sr_H_0 _ _, sr_H_0 _ _⟩, ?_, sr_N_upd (c := 0) hN (by omega), hK, hS⟩
      intro x hx
      by_cases e : x = w
      · subst e
        rw [sw_s]
        refine ⟨q1, q2, fun hne => ?_, pk_us, by rw [pk_un (by omega), pk_un (by omega), pk_us], sr_H_mv q4, sr_H_mv q5⟩
        rcases hq with hq | hq
        · exact absurd hq hne
        · exact hq
      · rw [sw_n W q e]
        obtain ⟨w1, w2, w3, w4, w5, w6, w7⟩ := hW x hx
        exact ⟨w1, w2, w3, by rw [pk_un e]; exact w4, by rw [pk_un (by omega), pk_un (by omega), pk_un (by omega)]; exact w5, sr_H_cy w6 (by omega), sr_H_cy w7 (by omega)⟩
    refine xv_h1 hw (br_f (by decide) ?_)
    by_cases hz : q.length = 0
    · have hq0 : q = [] := List.length_eq_zero_iff.mp hz
      refine br_t (by rw [hz]; rfl) (goX aI _ ?_)
      unfold wpY_watch
      refine yv_1 (n := 3) (by omega) (by decide) (br_f (by decide) ?_)
      refine br_t (by rw [q3, hz]; rfl) (goY bKD _ ⟨rfl, fin (Or.inl hq0) aI bKD⟩)
    · refine br_f (nI_ne0 (by omega) (by omega)) ?_
      have hY0 : ¬ bLN 0 = 0 := by rw [q3]; exact nI_ne0 (by omega) (by omega)
      refine xe_expr q1 q2 q4 (fun hv II => ?_) (fun hv II => ?_)
      · refine br_f (by decide) (goX II _ ?_)
        unfold wpY_watch
        refine yv_1 (n := 3) (by omega) (by decide) (br_f (by decide) (br_f hY0 ?_))
        refine yx_expr (li := 0) (by omega) q1 q2 q3 q5 (fun _ K => ?_) (fun hn => absurd hv hn)
        exact br_f (by decide) (goY K _ ⟨rfl, fin (Or.inr hv) II K⟩)
      · refine br_t rfl (br_t rfl ?_)
        unfold wpY_watch
        refine yv_1 (n := 3) (by omega) (by decide) (br_f (by decide) (br_f hY0 ?_))
        refine yx_expr (li := 0) (by omega) q1 q2 q3 q5 (fun hy => absurd hy hv) (fun _ K => ?_)
        refine br_t rfl (br_t rfl (nm_e (br_t rfl ⟨rfl, sr_mk (q := []) (W := W) ⟨by omega, hpt, hPT, ⟨hD, hT, ⟨st, hI, hst3⟩, hV⟩, ⟨Nat.zero_le _, fun t ht => absurd ht (by simp), pk_us, sr_H_0 _ _, sr_H_0 _ _⟩, ?_, hN, hK, hS⟩⟩)))
        intro x hx
        obtain ⟨w1, w2, w3, w4, w5, w6, w7⟩ := hW x hx
        exact ⟨w1, w2, w3, w4, by rw [pk_un (by omega)]; exact w5, w6, w7⟩
end
