/-! SETS by size, in the order of numbers; the next set of as many bits -/
def gN (k : Nat) : Int64 := Int64.ofNat k
theorem gN_toInt {a : Nat} (h : a < 9223372036854775808) : (gN a).toInt = a := Int64.toInt_ofNat_of_lt h
theorem gN_lt {a c : Nat} (ha : a < 9223372036854775808) (hc : c < 9223372036854775808) : (gN a < gN c) = (a < c) := by
  rw [Int64.lt_iff_toInt_lt, gN_toInt ha, gN_toInt hc]
  exact propext ⟨fun q => by omega, fun q => by omega⟩
theorem gN_eq {a c : Nat} (ha : a < 9223372036854775808) (hc : c < 9223372036854775808) : (gN a = gN c) = (a = c) := by
  apply propext
  constructor
  · intro q
    have := congrArg Int64.toInt q
    rw [gN_toInt ha, gN_toInt hc] at this
    omega
  · rintro rfl
    rfl
/-- whether the one is above the other, as the machine compares -/
theorem lg_gt {a c : Nat} (ha : a < 9223372036854775808) (hc : c < 9223372036854775808) : (nI 0 < lg_cmp (gN a) (gN c)) = (c < a) := by
  unfold lg_cmp
  apply propext
  by_cases h : c < a
  · rw [if_pos (show gN a > gN c by show gN c < gN a; rw [gN_lt hc ha]; exact h)]
    exact ⟨fun _ => h, fun _ => by decide⟩
  · rw [if_neg (show ¬ gN a > gN c by show ¬ gN c < gN a; rw [gN_lt hc ha]; exact h)]
    refine ⟨fun q => ?_, fun q => absurd q h⟩
    split at q
    · exact absurd q (by decide)
    · exact absurd q (by decide)
theorem lg_ge {a c : Nat} (ha : a < 9223372036854775808) (hc : c < 9223372036854775808) : (nI 0 ≤ lg_cmp (gN a) (gN c)) = (c ≤ a) := by
  unfold lg_cmp
  apply propext
  by_cases h : c < a
  · rw [if_pos (show gN a > gN c by show gN c < gN a; rw [gN_lt hc ha]; exact h)]
    exact ⟨fun _ => Nat.le_of_lt h, fun _ => by decide⟩
  · rw [if_neg (show ¬ gN a > gN c by show ¬ gN c < gN a; rw [gN_lt hc ha]; exact h)]
    by_cases e : a = c
    · subst e
      rw [if_pos rfl]
      exact ⟨fun _ => Nat.le_refl _, fun _ => by decide⟩
    · rw [if_neg (by rw [gN_eq ha hc]; exact e)]
      exact ⟨fun q => absurd q (by decide), fun q => by omega⟩
theorem l_nI {k i : Nat} (hk : k < 2147483648) (hi : i < 64) : bl (nI k).toInt64 i = k.testBit i := by
  have h31 : bt (nI k) 31 = false := by
    rw [b_nI, Nat.testBit_lt_two_pow (by omega)]
    rfl
  rw [l_ofI h31 hi, b_nI]
  by_cases c : i < 32
  · rw [decide_eq_true c, Bool.true_and]
  · rw [decide_eq_false c, Bool.false_and, Nat.testBit_lt_two_pow]
    have : 2 ^ 31 ≤ 2 ^ i := Nat.pow_le_pow_right (by decide) (by omega)
    omega
theorem bl_gN (k i : Nat) : bl (gN k) i = (decide (i < 64) && k.testBit i) := BitVec.getLsbD_ofNat _ _ _
theorem l_64 {k : Nat} (hk : k < 2147483648) : (nI k).toInt64 = gN k := l_ext (fun i hi => by rw [l_nI hk hi, bl_gN, decide_eq_true hi, Bool.true_and])
theorem bt_32 (y : Int64) {i : Nat} (hi : i < 32) : bt y.toInt32 i = bl y i := by
  unfold bt bl
  rw [Int64.toBitVec_toInt32, BitVec.getLsbD_signExtend, decide_eq_true hi, Bool.true_and, if_pos (by omega)]
theorem l_32 {k : Nat} : (gN k).toInt32 = nI k := b_ext (fun i hi => by rw [bt_32 _ hi, bl_gN, b_nI, decide_eq_true hi, decide_eq_true (by omega : i < 64)])
/-! the next set -/
def loL (x : Int64) : Int64 := x &&& (-x)
def nxL (x : Int64) : Int64 := if loL x = 0 then 4611686018427387904 else (x + loL x) ||| ((((x + loL x) ^^^ x) / loL x) >>> (Int32.toInt64 (2 : Int32) &&& 63))
theorem c_nextSet {x : Int64} {b : Bool} {I : MI} {L : ML} {K : Int64 → Bool → MI → ML → Prop} (hK : K (nxL x) b I L) : CL m_Search_nextSet [vl x] b I L K := by
  unfold nxL at hK
  refine v_Search_nextSet_0 ⟨fun c => ?_, fun c => ?_⟩
  · have c : ¬ lg_cmp (loL x) 0 = nI 0 := c
    rw [l_cmp0] at c
    rw [if_neg c] at hK
    exact ⟨c, hK⟩
  · have c : lg_cmp (loL x) 0 = nI 0 := Decidable.not_not.mp c
    rw [l_cmp0] at c
    rw [if_pos c] at hK
    exact hK
theorem fs_4 : ∀ s, s < 4 → ((1 : Int64) <<< (Int32.toInt64 (nI s) &&& 63)) - 1 = gN (2 ^ s - 1) := by decide +kernel
theorem c_firstSet {s : Nat} (hs : s < 4) {b : Bool} {I : MI} {L : ML} {K : Int64 → Bool → MI → ML → Prop} (hK : K (gN (2 ^ s - 1)) b I L) : CL m_Search_firstSet [vi (nI s)] b I L K := by
  rw [← fs_4 s hs] at hK
  exact v_Search_firstSet_0 hK
/-- sets of s of n ones, in the order of numbers -/
def LsA : Nat → Nat → List Nat
  | 0, 0 => [0]
  | 0, _ + 1 => []
  | _ + 1, 0 => [0]
  | n + 1, s + 1 => LsA n (s + 1) ++ (LsA n s).map (fun x => x + 2 ^ n)
/-- each one's next is the one behind it; z behind the last -/
def wlk (z : Nat) : List Nat → Bool
  | [] => true
  | x :: T => decide (nxL (gN x) = gN (T.headD z)) && wlk z T
def zfB (n s : Nat) : Nat := if s = 0 then 4611686018427387904 else if n < s then 2 ^ s - 1 else 2 ^ n + 2 ^ (s - 1) - 1
def setsB (n s : Nat) : Bool := wlk (zfB n s) (LsA n s) && (decide ((LsA n s).headD (zfB n s) = 2 ^ s - 1) && ((LsA n s).all (fun x => decide (x < 2 ^ n)) && (decide ((LsA n s).length < 1000) && (decide (2 ^ n ≤ zfB n s) && decide (zfB n s < 9223372036854775808)))))
theorem sets_16 : ∀ n, n < 17 → ∀ s, s < 4 → setsB n s = true := by decide +kernel
theorem sets_41 : ∀ n, n < 41 → ∀ s, s < 3 → setsB n s = true := by decide +kernel
def setsP (n s : Nat) : Prop := wlk (zfB n s) (LsA n s) = true ∧ (LsA n s).headD (zfB n s) = 2 ^ s - 1 ∧ (∀ x, x ∈ LsA n s → x < 2 ^ n) ∧ (LsA n s).length < 1000 ∧ 2 ^ n ≤ zfB n s ∧ zfB n s < 9223372036854775808
theorem setsP_of {n s : Nat} (h : setsB n s = true) : setsP n s := by
  unfold setsB at h
  rw [Bool.and_eq_true, Bool.and_eq_true, Bool.and_eq_true, Bool.and_eq_true, Bool.and_eq_true, decide_eq_true_iff, decide_eq_true_iff, decide_eq_true_iff, decide_eq_true_iff, List.all_eq_true] at h
  obtain ⟨h1, h2, h3, h4, h5, h6⟩ := h
  exact ⟨h1, h2, fun x hx => of_decide_eq_true (h3 x hx), h4, h5, h6⟩
/-! the reference counts up -/
theorem pc_add {n x : Nat} (h : x < 2 ^ n) : cntB (2 ^ n + x).testBit (n + 1) = cntB x.testBit n + 1 := by
  show cntB (2 ^ n + x).testBit n + ((2 ^ n + x).testBit n).toNat = _
  rw [Nat.testBit_two_pow_add_eq, Nat.testBit_lt_two_pow h, cntB_cong (g := x.testBit) (fun i hi => Nat.testBit_two_pow_add_gt hi x)]
  rfl
theorem pc_low {n x : Nat} (h : x < 2 ^ n) : cntB x.testBit (n + 1) = cntB x.testBit n := by
  show cntB x.testBit n + (x.testBit n).toNat = _
  rw [Nat.testBit_lt_two_pow h]
  rfl
theorem rng_s (n : Nat) : List.range' 0 (2 ^ (n + 1)) = List.range' 0 (2 ^ n) ++ (List.range' 0 (2 ^ n)).map (fun x => 2 ^ n + x) := by
  have e : 2 ^ (n + 1) = 2 ^ n + 2 ^ n := by rw [Nat.pow_succ]; omega
  rw [e, ← List.range'_append_1, List.map_add_range', Nat.zero_add, Nat.add_zero]
theorem flt_s : ∀ n s, (List.range' 0 (2 ^ n)).filter (fun x => decide (cntB x.testBit n = s)) = LsA n s
  | 0, 0 => rfl
  | 0, s + 1 => rfl
  | n + 1, s => by
    have hx : ∀ x, x ∈ List.range' 0 (2 ^ n) → x < 2 ^ n := fun x h => by
      have := List.mem_range'_1.mp h
      omega
    rw [rng_s, List.filter_append, List.filter_map]
    have e1 : (List.range' 0 (2 ^ n)).filter (fun x => decide (cntB x.testBit (n + 1) = s)) = LsA n s := by
      rw [← flt_s n s]
      exact List.filter_congr (fun x h => by rw [pc_low (hx x h)])
    rw [e1]
    cases s with
    | zero =>
      have e2 : (List.range' 0 (2 ^ n)).filter ((fun x => decide (cntB x.testBit (n + 1) = 0)) ∘ (fun x => 2 ^ n + x)) = [] := by
        rw [List.filter_eq_nil_iff]
        intro x h
        show ¬ decide (cntB (2 ^ n + x).testBit (n + 1) = 0) = true
        rw [pc_add (hx x h)]
        simp
      rw [e2]
      cases n <;> rfl
    | succ s =>
      have e2 : (List.range' 0 (2 ^ n)).filter ((fun x => decide (cntB x.testBit (n + 1) = s + 1)) ∘ (fun x => 2 ^ n + x)) = LsA n s := by
        rw [← flt_s n s]
        exact List.filter_congr (fun x h => by
          show decide (cntB (2 ^ n + x).testBit (n + 1) = s + 1) = _
          rw [pc_add (hx x h)]
          exact decide_eq_decide.mpr ⟨fun _ => by omega, fun _ => by omega⟩)
      rw [e2]
      show _ = LsA n (s + 1) ++ (LsA n s).map (fun x => x + 2 ^ n)
      congr 1
      exact List.map_congr_left (fun x _ => Nat.add_comm _ _)
theorem bN_self {n x : Nat} (h : x < 2 ^ n) : bN n x.testBit = x := Nat.eq_of_testBit_eq (fun i => by
  rw [bN_bit]
  by_cases c : i < n
  · rw [decide_eq_true c, Bool.true_and]
  · rw [decide_eq_false c, Bool.false_and, Nat.testBit_lt_two_pow]
    have : 2 ^ n ≤ 2 ^ i := Nat.pow_le_pow_right (by decide) (by omega)
    omega)
