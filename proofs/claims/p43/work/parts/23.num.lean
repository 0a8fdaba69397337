/-! NUMBERS: Int32 and Int64 by natural numbers, bits, memories -/
theorem n_lit (k : Nat) : (OfNat.ofNat k : Int32) = nI (OfNat.ofNat k) := rfl
def nM : Int32 := -1
theorem n_m1 : -nI 1 = nM := rfl
theorem n_m1' : (-1 : Int32) = nM := rfl
theorem n_add (a b : Nat) : nI a + nI b = nI (a + b) := nI_add a b
theorem n_mul (a b : Nat) : nI a * nI b = nI (a * b) := pk_mul a b
theorem n_sub {a b : Nat} (h : b ≤ a) : nI a - nI b = nI (a - b) := pk_sub h
theorem n_lt {a b : Nat} (ha : a < 2147483648) (hb : b < 2147483648) : (nI a < nI b) = (a < b) := propext (nI_ltI ha hb)
theorem n_le {a b : Nat} (ha : a < 2147483648) (hb : b < 2147483648) : (nI a ≤ nI b) = (a ≤ b) := propext (nI_leI ha hb)
theorem n_eq {a b : Nat} (ha : a < 2147483648) (hb : b < 2147483648) : (nI a = nI b) = (a = b) := propext (nI_eq ha hb)
theorem n_cl {a : Nat} (ha : a < 2147483648) : (nI a).toNatClampNeg = a := nI_clamp ha
theorem n_in {a n : Nat} (ha : a < 2147483648) : vp_in (nI a) n = (a < n) := by
  unfold vp_in
  rw [n_cl ha]
  apply propext
  constructor
  · intro h
    exact Nat.not_le.mp (fun q => h (Or.inr q))
  · intro h q
    rcases q with q | q
    · exact absurd q (nI_pos ha)
    · omega
theorem n_rem {a d : Nat} (ha : a < 2147483648) (h0 : 0 < d) (hd : d < 2147483648) : nI a - nI a / nI d * nI d = nI (a % d) := pk_rem ha h0 hd
theorem n_div {a d : Nat} (ha : a < 2147483648) (h0 : 0 < d) (hd : d < 2147483648) : nI a / nI d = nI (a / d) := pk_div ha h0 hd
theorem n_mlt {a : Nat} (ha : a < 2147483648) : (nM < nI a) = True := by
  apply eq_true
  rw [Int32.lt_iff_toInt_lt, nI_toInt ha]
  show (-1 : Int) < a
  omega
theorem n_mle {a : Nat} (ha : a < 2147483648) : (nM ≤ nI a) = True := by
  apply eq_true
  rw [Int32.le_iff_toInt_le, nI_toInt ha]
  show (-1 : Int) ≤ a
  omega
theorem n_ltm {a : Nat} (ha : a < 2147483648) : (nI a < nM) = False := by
  apply eq_false
  rw [Int32.lt_iff_toInt_lt, nI_toInt ha]
  show ¬ ((a : Int) < -1)
  omega
theorem n_lem {a : Nat} (ha : a < 2147483648) : (nI a ≤ nM) = False := by
  apply eq_false
  rw [Int32.le_iff_toInt_le, nI_toInt ha]
  show ¬ ((a : Int) ≤ -1)
  omega
theorem n_eqm {a : Nat} (ha : a < 2147483648) : (nI a = nM) = False := by
  apply eq_false
  intro h
  have := congrArg Int32.toInt h
  rw [nI_toInt ha] at this
  have h2 : (nM.toInt) = -1 := rfl
  omega
theorem n_meq {a : Nat} (ha : a < 2147483648) : (nM = nI a) = False := by
  rw [← n_eqm ha]
  exact propext ⟨Eq.symm, Eq.symm⟩
theorem n_addm (a : Nat) : nI (a + 1) + nM = nI a := pk_m1 a
theorem n_addm' {a : Nat} (h : 0 < a) : nI a + nM = nI (a - 1) := by
  obtain ⟨k, rfl⟩ : ∃ k, a = k + 1 := ⟨a - 1, by omega⟩
  exact n_addm k
theorem n_madd (a : Nat) : nM + nI (a + 1) = nI a := by
  rw [Int32.add_comm]
  exact n_addm a
theorem n_madd1 : nM + nI 1 = nI 0 := rfl
theorem n_mmlt : (nM < nM) = False := by decide
theorem n_mmle : (nM ≤ nM) = True := by decide
theorem n_of {x : Int32} (h : ¬ x < nI 0) : ∃ j : Nat, j < 2147483648 ∧ x = nI j := nI_of h
theorem n_nat {x : Int32} (h : x < nI 0) (a : Nat) (ha : a < 2147483648) : x < nI a ∧ ¬ x = nI a ∧ ¬ nI a ≤ x ∧ ¬ nI a < x := by
  have h0 : (nI 0).toInt = 0 := rfl
  have := nI_toInt ha
  rw [Int32.lt_iff_toInt_lt, h0] at h
  refine ⟨?_, ?_, ?_, ?_⟩
  · rw [Int32.lt_iff_toInt_lt, this]; omega
  · intro e; rw [e, this] at h; omega
  · rw [Int32.le_iff_toInt_le, this]; omega
  · rw [Int32.lt_iff_toInt_lt, this]; omega
/-! bits of an Int32 -/
def bt (x : Int32) (i : Nat) : Bool := x.toBitVec.getLsbD i
theorem b_ext {x y : Int32} (h : ∀ i, i < 32 → bt x i = bt y i) : x = y := Int32.toBitVec_inj.mp (BitVec.eq_of_getLsbD_eq (fun i hi => h i hi))
theorem b_or (x y : Int32) (i : Nat) : bt (x ||| y) i = (bt x i || bt y i) := by unfold bt; rw [Int32.toBitVec_or, BitVec.getLsbD_or]
theorem b_and (x y : Int32) (i : Nat) : bt (x &&& y) i = (bt x i && bt y i) := by unfold bt; rw [Int32.toBitVec_and, BitVec.getLsbD_and]
theorem b_xor (x y : Int32) (i : Nat) : bt (x ^^^ y) i = (bt x i ^^ bt y i) := by unfold bt; rw [Int32.toBitVec_xor, BitVec.getLsbD_xor]
theorem b_big {x : Int32} {i : Nat} (h : 32 ≤ i) : bt x i = false := BitVec.getLsbD_of_ge _ _ h
theorem b_m1 : ∀ i, i < 32 → bt nM i = true := by decide +kernel
theorem b_0 (i : Nat) : bt (nI 0) i = false := BitVec.getLsbD_zero
theorem s_l : ∀ n, n < 32 → ((nI n &&& nI 31).toBitVec.smod 32).toNat = n := by decide +kernel
theorem b_shl (n : Nat) (hn : n < 32) (x : Int32) {i : Nat} (hi : i < 32) : bt (x <<< (nI n &&& nI 31)) i = (decide (n ≤ i) && bt x (i - n)) := by
  unfold bt
  rw [Int32.toBitVec_shiftLeft]
  show (x.toBitVec <<< ((nI n &&& nI 31).toBitVec.smod 32).toNat).getLsbD i = _
  rw [s_l n hn, BitVec.getLsbD_shiftLeft]
  by_cases h : i < n
  · rw [decide_eq_true h, decide_eq_false (Nat.not_le.mpr h)]
    simp
  · rw [decide_eq_false h, decide_eq_true (Nat.not_lt.mp h), decide_eq_true hi]
    rfl
theorem b_sshr (n : Nat) (hn : n < 32) (x : Int32) {i : Nat} (hi : i < 32) : bt (x >>> (nI n &&& nI 31)) i = if n + i < 32 then bt x (n + i) else bt x 31 := by
  unfold bt
  rw [Int32.toBitVec_shiftRight]
  show (x.toBitVec.sshiftRight ((nI n &&& nI 31).toBitVec.smod 32).toNat).getLsbD i = _
  rw [s_l n hn, BitVec.getLsbD_sshiftRight]
  rw [decide_eq_false (by omega : ¬ 32 ≤ i), BitVec.msb_eq_getLsbD_last]
  simp
theorem b_nI (s i : Nat) : bt (nI s) i = (decide (i < 32) && s.testBit i) := BitVec.getLsbD_ofNat _ _ _
theorem b_1 (i : Nat) : bt (nI 1) i = decide (i = 0) := by
  rw [b_nI]
  by_cases h : i = 0
  · subst h; rfl
  · rw [decide_eq_false h]
    have : Nat.testBit 1 i = false := by
      have := Nat.testBit_two_pow_of_ne (n := 0) (m := i) (fun q => h q.symm)
      exact this
    rw [this, Bool.and_false]
theorem b_2p {p i : Nat} (hi : i < 32) : bt (nI (2 ^ p)) i = decide (p = i) := by
  rw [b_nI, decide_eq_true hi, Bool.true_and, Nat.testBit_two_pow]
theorem n_shl {p : Nat} (h : p < 32) : nI 1 <<< (nI p &&& nI 31) = nI (2 ^ p) := by
  apply b_ext
  intro i hi
  rw [b_shl p h _ hi, b_1, b_2p hi]
  by_cases q : p = i
  · subst q; simp
  · rw [decide_eq_false q]
    by_cases r : p ≤ i
    · rw [decide_eq_false (by omega : ¬ i - p = 0), Bool.and_false]
    · rw [decide_eq_false r, Bool.false_and]
theorem n_bit {x : Int32} {p : Nat} (h : p < 32) : (x >>> (nI p &&& nI 31)) &&& nI 1 = nI (bt x p).toNat := by
  apply b_ext
  intro i hi
  rw [b_and, b_sshr p h _ hi, b_1, b_nI, decide_eq_true hi, Bool.true_and, Nat.testBit_bool_toNat]
  by_cases q : i = 0
  · subst q; simp [h]
  · simp [q]
theorem n_b0 (c : Bool) : (nI c.toNat = nI 0) = (c = false) := by cases c <;> decide
theorem n_b1 (c : Bool) : (nI c.toNat = nI 1) = (c = true) := by cases c <;> decide
/-! numbers out of bits -/
def bN : Nat → (Nat → Bool) → Nat
  | 0, _ => 0
  | n + 1, f => bN n f + (if f n = true then 2 ^ n else 0)
theorem bN_lt : ∀ (n : Nat) (f : Nat → Bool), bN n f < 2 ^ n
  | 0, _ => Nat.one_pos
  | n + 1, f => by
    have := bN_lt n f
    unfold bN
    have e : 2 ^ (n + 1) = 2 ^ n + 2 ^ n := by rw [Nat.pow_succ]; omega
    split <;> omega
theorem bN_bit : ∀ (n : Nat) (f : Nat → Bool) (i : Nat), (bN n f).testBit i = (decide (i < n) && f i)
  | 0, f, i => by simp [bN]
  | n + 1, f, i => by
    have hl := bN_lt n f
    have ih := bN_bit n f i
    unfold bN
    by_cases q : i = n
    · subst q
      have h0 : (bN i f).testBit i = false := Nat.testBit_lt_two_pow hl
      cases hf : f i with
      | true => rw [if_pos rfl, Nat.add_comm, Nat.testBit_two_pow_add_eq, h0]; simp
      | false => rw [if_neg (by simp), Nat.add_zero, h0]; simp
    · have e : decide (i < n + 1) = decide (i < n) := by
        by_cases r : i < n
        · rw [decide_eq_true r, decide_eq_true (by omega : i < n + 1)]
        · rw [decide_eq_false r, decide_eq_false (by omega : ¬ i < n + 1)]
      rw [e]
      split
      · by_cases r : i < n
        · rw [Nat.add_comm, Nat.testBit_two_pow_add_gt r, ih]
        · rw [Nat.testBit_lt_two_pow, decide_eq_false r, Bool.false_and]
          have : 2 ^ (n + 1) ≤ 2 ^ i := Nat.pow_le_pow_right (by decide) (by omega)
          have e2 : 2 ^ (n + 1) = 2 ^ n + 2 ^ n := by rw [Nat.pow_succ]; omega
          omega
      · rw [Nat.add_zero, ih]
theorem bN_cong {f g : Nat → Bool} : ∀ {n : Nat}, (∀ i, i < n → f i = g i) → bN n f = bN n g
  | 0, _ => rfl
  | n + 1, h => by
    unfold bN
    rw [bN_cong (fun i hi => h i (by omega)), h n (by omega)]
def bI (n : Nat) (f : Nat → Bool) : Int32 := nI (bN n f)
theorem bI_bit {n i : Nat} (f : Nat → Bool) (hn : n ≤ 32) : bt (bI n f) i = (decide (i < n) && f i) := by
  unfold bI
  rw [b_nI, bN_bit]
  by_cases h : i < n
  · rw [decide_eq_true h, decide_eq_true (by omega : i < 32), Bool.true_and]
  · rw [decide_eq_false h, Bool.false_and, Bool.and_false]
theorem bI_of {x : Int32} {n : Nat} {f : Nat → Bool} (hn : n ≤ 32) (h : ∀ i, i < 32 → bt x i = (decide (i < n) && f i)) : x = bI n f := b_ext (fun i hi => (h i hi).trans (bI_bit f hn).symm)
theorem bI_cong {f g : Nat → Bool} {n : Nat} (h : ∀ i, i < n → f i = g i) : bI n f = bI n g := congrArg nI (bN_cong h)
/-! bits of an Int64 -/
def bl (x : Int64) (i : Nat) : Bool := x.toBitVec.getLsbD i
theorem l_ext {x y : Int64} (h : ∀ i, i < 64 → bl x i = bl y i) : x = y := Int64.toBitVec_inj.mp (BitVec.eq_of_getLsbD_eq (fun i hi => h i hi))
theorem l_or (x y : Int64) (i : Nat) : bl (x ||| y) i = (bl x i || bl y i) := by unfold bl; rw [Int64.toBitVec_or, BitVec.getLsbD_or]
theorem l_and (x y : Int64) (i : Nat) : bl (x &&& y) i = (bl x i && bl y i) := by unfold bl; rw [Int64.toBitVec_and, BitVec.getLsbD_and]
theorem l_xor (x y : Int64) (i : Nat) : bl (x ^^^ y) i = (bl x i ^^ bl y i) := by unfold bl; rw [Int64.toBitVec_xor, BitVec.getLsbD_xor]
theorem l_m1 : ∀ i, i < 64 → bl (-1) i = true := by decide +kernel
theorem l_0 (i : Nat) : bl (0 : Int64) i = false := BitVec.getLsbD_zero
theorem sl_l : ∀ n, n < 64 → (((nI n).toInt64 &&& 63).toBitVec.smod 64).toNat = n := by decide +kernel
theorem l_shl (n : Nat) (hn : n < 64) (x : Int64) {i : Nat} (hi : i < 64) : bl (x <<< ((nI n).toInt64 &&& 63)) i = (decide (n ≤ i) && bl x (i - n)) := by
  unfold bl
  rw [Int64.toBitVec_shiftLeft]
  show (x.toBitVec <<< (((nI n).toInt64 &&& 63).toBitVec.smod 64).toNat).getLsbD i = _
  rw [sl_l n hn, BitVec.getLsbD_shiftLeft]
  by_cases h : i < n
  · rw [decide_eq_true h, decide_eq_false (Nat.not_le.mpr h)]
    simp
  · rw [decide_eq_false h, decide_eq_true (Nat.not_lt.mp h), decide_eq_true hi]
    rfl
theorem l_sshr (n : Nat) (hn : n < 64) (x : Int64) {i : Nat} (hi : i < 64) : bl (x >>> ((nI n).toInt64 &&& 63)) i = if n + i < 64 then bl x (n + i) else bl x 63 := by
  unfold bl
  rw [Int64.toBitVec_shiftRight]
  show (x.toBitVec.sshiftRight (((nI n).toInt64 &&& 63).toBitVec.smod 64).toNat).getLsbD i = _
  rw [sl_l n hn, BitVec.getLsbD_sshiftRight]
  rw [decide_eq_false (by omega : ¬ 64 ≤ i), BitVec.msb_eq_getLsbD_last]
  simp
theorem l_1 (i : Nat) (hi : i < 64) : bl (1 : Int64) i = decide (i = 0) := by
  revert i
  decide +kernel
theorem l_bitx {x : Int64} {p : Nat} (h : p < 64) : (x >>> ((nI p).toInt64 &&& 63)) &&& 1 = if bl x p = true then 1 else 0 := by
  apply l_ext
  intro i hi
  rw [l_and, l_sshr p h _ hi, l_1 i hi]
  by_cases q : i = 0
  · subst q
    rw [if_pos (by omega : p + 0 < 64)]
    cases hb : bl x p with
    | true => simp [hb]; decide
    | false => simp [hb]; decide
  · rw [decide_eq_false q, Bool.and_false]
    cases hb : bl x p with
    | true => rw [if_pos rfl, l_1 i hi, decide_eq_false q]
    | false => rw [if_neg (by simp), l_0]
theorem l_cmp {x : Int64} {p : Nat} (h : p < 64) : lg_cmp ((x >>> ((nI p).toInt64 &&& 63)) &&& 1) 0 = nI (bl x p).toNat := by
  rw [l_bitx h]
  cases bl x p <;> decide
