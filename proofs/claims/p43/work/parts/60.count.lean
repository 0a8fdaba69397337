/-! how many bits -/
def cntB (f : Nat → Bool) : Nat → Nat
  | 0 => 0
  | n + 1 => cntB f n + (f n).toNat
theorem cntB_le (f : Nat → Bool) : ∀ n, cntB f n ≤ n
  | 0 => Nat.le_refl 0
  | n + 1 => by
    unfold cntB
    have := cntB_le f n
    have h2 : (f n).toNat ≤ 1 := by cases f n <;> decide
    omega
theorem cntB_cong {f g : Nat → Bool} : ∀ {n : Nat}, (∀ i, i < n → f i = g i) → cntB f n = cntB g n
  | 0, _ => rfl
  | n + 1, h => by
    unfold cntB
    rw [cntB_cong (fun i hi => h i (by omega)), h n (by omega)]
theorem cntB_cut {f : Nat → Bool} {n : Nat} : ∀ m, n ≤ m → cntB (fun i => decide (i < n) && f i) m = cntB f n
  | 0, h => by
    obtain rfl : n = 0 := by omega
    rfl
  | m + 1, h => by
    by_cases e : n = m + 1
    · subst e
      exact cntB_cong (fun i hi => by rw [decide_eq_true hi, Bool.true_and])
    · show cntB (fun i => decide (i < n) && f i) m + (decide (m < n) && f m).toNat = _
      rw [cntB_cut m (by omega), decide_eq_false (by omega), Bool.false_and]
      rfl
def uS (x s : Int32) : Int32 := (Int32.toUInt32 x >>> (Int32.toUInt32 s &&& Int32.toUInt32 31)).toInt32
theorem uS_s : ∀ s, s < 32 → Int32.toUInt32 (nI s) &&& Int32.toUInt32 31 = UInt32.ofNat s := by decide +kernel
theorem n_ushr {k s : Nat} (hk : k < 4294967296) (hs : s < 32) : uS (nI k) (nI s) = nI (k >>> s) := by
  have e : Int32.toUInt32 (nI k) >>> UInt32.ofNat s = UInt32.ofNat (k >>> s) := by
    have e1 : Int32.toUInt32 (nI k) = UInt32.ofNat k := rfl
    apply UInt32.toNat_inj.mp
    rw [e1, UInt32.toNat_shiftRight, UInt32.toNat_ofNat', UInt32.toNat_ofNat', UInt32.toNat_ofNat', Nat.mod_eq_of_lt (b := 2 ^ 32) (by omega), Nat.mod_eq_of_lt (b := 2 ^ 32) (by omega), Nat.mod_eq_of_lt hs]
    have := Nat.shiftRight_le k s
    rw [Nat.mod_eq_of_lt (by omega)]
  unfold uS
  rw [uS_s s hs, e]
  rfl
theorem n_and (a c : Nat) : nI a &&& nI c = nI (a &&& c) := b_ext (fun i _ => by
  rw [b_and, b_nI, b_nI, b_nI, Nat.testBit_and]
  cases decide (i < 32) <;> rfl)
def sw1 (x : Int32) : Int32 := x - (uS x 1 &&& 1431655765)
def sw2 (x : Int32) : Int32 := (x &&& 858993459) + (uS x 2 &&& 858993459)
def sw3 (x : Int32) : Int32 := (x + uS x 4) &&& 252645135
def sw4 (x : Int32) : Int32 := x + uS x 8
def sw5 (x : Int32) : Int32 := (x + uS x 16) &&& 63
def sn1 (x : Nat) : Nat := x - (x >>> 1 &&& 1431655765)
def sn2 (x : Nat) : Nat := (x &&& 858993459) + (x >>> 2 &&& 858993459)
def sn3 (x : Nat) : Nat := (x + x >>> 4) &&& 252645135
def sn4 (x : Nat) : Nat := x + x >>> 8
def sn5 (x : Nat) : Nat := (x + x >>> 16) &&& 63
def cNb (k : Nat) : Nat → Nat
  | 0 => 0
  | n + 1 => cNb k n + k / 2 ^ n % 2
theorem cN_bits (k : Nat) : ∀ n, cNb k n = cntB k.testBit n
  | 0 => rfl
  | n + 1 => by
    unfold cNb cntB
    rw [cN_bits k n, Nat.toNat_testBit]
theorem cntB_add (f : Nat → Bool) (m : Nat) : ∀ n, cntB f (m + n) = cntB f m + cntB (fun i => f (m + i)) n
  | 0 => rfl
  | n + 1 => by
    show cntB f (m + n) + (f (m + n)).toNat = cntB f m + (cntB (fun i => f (m + i)) n + (f (m + n)).toNat)
    rw [cntB_add f m n]
    omega
theorem cNb_D {c a : Nat} (hc : c < 256) : cNb (c + 256 * a) 16 = cNb c 8 + cNb a 8 := by
  have e : ∀ i, (c + 256 * a).testBit i = if i < 8 then c.testBit i else a.testBit (i - 8) := fun i => by
    rw [Nat.add_comm, show 256 = 2 ^ 8 from rfl, Nat.testBit_two_pow_mul_add a hc]
  rw [cN_bits, cN_bits, cN_bits, show 16 = 8 + 8 from rfl, cntB_add]
  congr 1
  · exact cntB_cong (fun i hi => by rw [e, if_pos hi])
  · exact cntB_cong (fun i hi => by rw [e, if_neg (by omega), Nat.add_sub_cancel_left])
theorem d_land {x m y n : Nat} (hx : x < 256) (hm : m < 256) : (x + 256 * y) &&& (m + 256 * n) = (x &&& m) + 256 * (y &&& n) := by
  have hxm : x &&& m < 256 := Nat.lt_of_le_of_lt Nat.and_le_left hx
  apply Nat.eq_of_testBit_eq
  intro i
  rw [Nat.testBit_and, Nat.add_comm x, Nat.add_comm m, Nat.add_comm (x &&& m), show 256 = 2 ^ 8 from rfl, Nat.testBit_two_pow_mul_add y hx, Nat.testBit_two_pow_mul_add n hm, Nat.testBit_two_pow_mul_add (y &&& n) hxm]
  by_cases c : i < 8
  · rw [if_pos c, if_pos c, if_pos c, Nat.testBit_and]
  · rw [if_neg c, if_neg c, if_neg c, Nat.testBit_and]
def t1 (c : Nat) : Nat := c - (c / 2 &&& 85)
def t2 (x : Nat) : Nat := (x &&& 51) + (x / 4 &&& 51)
def t3 (x : Nat) : Nat := (x + x / 16) % 16
theorem t_a : ∀ c, c < 256 → ∀ a, a < 2 → (c / 2 + 128 * a) &&& 85 = c / 2 &&& 85 := by decide +kernel
theorem t_b : ∀ c, c < 256 → ∀ a, a < 4 → (c / 4 + 64 * a) &&& 51 = c / 4 &&& 51 := by decide +kernel
theorem t_c : ∀ c, c < 256 → (c / 2 &&& 85) ≤ c ∧ (c / 2 &&& 5592405) = (c / 2 &&& 85) ∧ (c &&& 3355443) = (c &&& 51) ∧ (c / 4 &&& 3355443) = (c / 4 &&& 51) ∧ t2 (t1 c) % 16 ≤ 4 ∧ t2 (t1 c) / 16 ≤ 4 ∧ t3 (t2 (t1 c)) = cNb c 8 := by decide +kernel
theorem t_d : ∀ y, y < 80 → (y &&& 986895) = y % 16 := by decide +kernel
theorem sw_ok {k : Nat} (h : k < 65536) : sn5 (sn4 (sn3 (sn2 (sn1 k)))) = cNb k 16 := by
  obtain ⟨c, a, hc, ha, rfl⟩ : ∃ c a, c < 256 ∧ a < 256 ∧ k = c + 256 * a := ⟨k % 256, k / 256, by omega, by omega, by omega⟩
  obtain ⟨p1, p2, -, -, p5, p6, p7⟩ := t_c c hc
  obtain ⟨q1, q2, -, -, q5, q6, q7⟩ := t_c a ha
  have e1 : sn1 (c + 256 * a) = t1 c + 256 * t1 a := by
    unfold sn1
    rw [Nat.shiftRight_eq_div_pow, show (c + 256 * a) / 2 ^ 1 = (c / 2 + 128 * (a % 2)) + 256 * (a / 2) by omega, show 1431655765 = 85 + 256 * 5592405 from rfl, d_land (by omega) (by omega), t_a c hc _ (by omega), q2]
    unfold t1
    omega
  have r1 : t1 c < 256 := Nat.lt_of_le_of_lt (Nat.sub_le _ _) hc
  have s1 : t1 a < 256 := Nat.lt_of_le_of_lt (Nat.sub_le _ _) ha
  have e2 : sn2 (t1 c + 256 * t1 a) = t2 (t1 c) + 256 * t2 (t1 a) := by
    obtain ⟨-, -, u1, u2, -⟩ := t_c (t1 c) r1
    obtain ⟨-, -, v1, v2, -⟩ := t_c (t1 a) s1
    unfold sn2
    rw [Nat.shiftRight_eq_div_pow, show (t1 c + 256 * t1 a) / 2 ^ 2 = (t1 c / 4 + 64 * (t1 a % 4)) + 256 * (t1 a / 4) by omega, show 858993459 = 51 + 256 * 3355443 from rfl, d_land (by omega) (by omega), d_land (by omega) (by omega), t_b _ r1 _ (by omega), v1, v2]
    unfold t2
    omega
  have e3 : sn3 (t2 (t1 c) + 256 * t2 (t1 a)) = t3 (t2 (t1 c)) + 256 * t3 (t2 (t1 a)) := by
    generalize t2 (t1 c) = x at p5 p6
    generalize t2 (t1 a) = y at q5 q6
    unfold sn3
    rw [Nat.shiftRight_eq_div_pow, show x + 256 * y + (x + 256 * y) / 2 ^ 4 = (x + x / 16 + 16 * (y % 16)) + 256 * (y + y / 16) by omega, show 252645135 = 15 + 256 * 986895 from rfl, d_land (by omega) (by omega), t_d _ (by omega), show (15 : Nat) = 2 ^ 4 - 1 from rfl, Nat.and_two_pow_sub_one_eq_mod]
    unfold t3
    omega
  have e4 : sn5 (sn4 (t3 (t2 (t1 c)) + 256 * t3 (t2 (t1 a)))) = t3 (t2 (t1 c)) + t3 (t2 (t1 a)) := by
    have u : t3 (t2 (t1 c)) < 16 := Nat.mod_lt _ (by omega)
    have v : t3 (t2 (t1 a)) < 16 := Nat.mod_lt _ (by omega)
    generalize t3 (t2 (t1 c)) = x at u
    generalize t3 (t2 (t1 a)) = y at v
    unfold sn5 sn4
    have z1 : (x + 256 * y) >>> 8 = y := by rw [Nat.shiftRight_eq_div_pow, show 2 ^ 8 = 256 from rfl]; omega
    have z2 : (x + 256 * y + y) >>> 16 = 0 := by rw [Nat.shiftRight_eq_div_pow, show 2 ^ 16 = 65536 from rfl]; omega
    rw [z1, z2, show (63 : Nat) = 2 ^ 6 - 1 from rfl, Nat.and_two_pow_sub_one_eq_mod, show 2 ^ 6 = 64 from rfl]
    omega
  rw [e1, e2, e3, e4, p7, q7, cNb_D hc]
theorem sw_n {k : Nat} (h : k < 65536) : sw5 (sw4 (sw3 (sw2 (sw1 (nI k))))) = nI (cntB k.testBit 16) := by
  have e1 : sw1 (nI k) = nI (sn1 k) := by
    show nI k - (uS (nI k) (nI 1) &&& nI 1431655765) = _
    rw [n_ushr (by omega) (by omega), n_and, n_sub]
    · rfl
    · exact Nat.le_trans Nat.and_le_left (Nat.shiftRight_le k 1)
  have b1 : sn1 k < 65536 := Nat.lt_of_le_of_lt (Nat.sub_le _ _) h
  have e2 : ∀ x, x < 65536 → sw2 (nI x) = nI (sn2 x) := fun x hx => by
    show (nI x &&& nI 858993459) + (uS (nI x) (nI 2) &&& nI 858993459) = _
    rw [n_ushr (by omega) (by omega), n_and, n_and, n_add]
    rfl
  have b2 : sn2 (sn1 k) < 131072 := by
    have q1 : sn1 k &&& 858993459 ≤ sn1 k := Nat.and_le_left
    have q2 : sn1 k >>> 2 &&& 858993459 ≤ sn1 k := Nat.le_trans Nat.and_le_left (Nat.shiftRight_le _ 2)
    unfold sn2
    omega
  have e3 : ∀ x, x < 131072 → sw3 (nI x) = nI (sn3 x) := fun x hx => by
    show (nI x + uS (nI x) (nI 4)) &&& nI 252645135 = _
    rw [n_ushr (by omega) (by omega), n_add, n_and]
    rfl
  have b3 : sn3 (sn2 (sn1 k)) < 262144 := by
    have q1 : sn3 (sn2 (sn1 k)) ≤ sn2 (sn1 k) + sn2 (sn1 k) >>> 4 := Nat.and_le_left
    have q2 := Nat.shiftRight_le (sn2 (sn1 k)) 4
    omega
  have e4 : ∀ x, x < 262144 → sw4 (nI x) = nI (sn4 x) := fun x hx => by
    show nI x + uS (nI x) (nI 8) = _
    rw [n_ushr (by omega) (by omega), n_add]
    rfl
  have b4 : sn4 (sn3 (sn2 (sn1 k))) < 524288 := by
    have q2 := Nat.shiftRight_le (sn3 (sn2 (sn1 k))) 8
    unfold sn4
    omega
  have e5 : ∀ x, x < 524288 → sw5 (nI x) = nI (sn5 x) := fun x hx => by
    show (nI x + uS (nI x) (nI 16)) &&& nI 63 = _
    rw [n_ushr (by omega) (by omega), n_add, n_and]
    rfl
  rw [e1, e2 _ b1, e3 _ b2, e4 _ b3, e5 _ b4, sw_ok h, cN_bits]
theorem c_bitCount {n : Nat} {f : Nat → Bool} (hn : n ≤ 16) {b : Bool} {I : MI} {L : ML} {K : Int32 → Bool → MI → ML → Prop} (hK : K (nI (cntB f n)) b I L) : CI m_J_bitCount [vi (bI n f)] b I L K := by
  have h1 := bN_lt n f
  have h2 : 2 ^ n ≤ 2 ^ 16 := Nat.pow_le_pow_right (by omega) hn
  have e := sw_n (k := bN n f) (by omega)
  have e2 : cntB (bN n f).testBit 16 = cntB f n := by
    rw [← cntB_cut (f := f) 16 hn]
    exact cntB_cong (fun i _ => bN_bit n f i)
  rw [e2] at e
  rw [← e] at hK
  exact v_J_bitCount_0 hK
theorem l_ofI {x : Int32} (h : bt x 31 = false) {i : Nat} (hi : i < 64) : bl x.toInt64 i = bt x i := by
  unfold bl
  rw [Int32.toBitVec_toInt64, BitVec.getLsbD_signExtend, decide_eq_true hi, Bool.true_and]
  by_cases c : i < 32
  · rw [if_pos c]
    rfl
  · rw [if_neg c, b_big (by omega), BitVec.msb_eq_getLsbD_last]
    exact h
theorem l_toI (c : Bool) : (if c = true then (1 : Int64) else 0).toInt32 = nI c.toNat := by cases c <;> decide
