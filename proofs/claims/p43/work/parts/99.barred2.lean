/-! WHAT-IFS: barred ties, the reference -/
theorem LsA_1 : ∀ n, LsA n 1 = PLf 0 n
  | 0 => rfl
  | n + 1 => by
    show LsA n 1 ++ (LsA n 0).map (fun x => x + 2 ^ n) = _
    rw [LsA_1 n, LsA_0, PLf_s]
    show PLf 0 n ++ [0 + 2 ^ n] = _
    rw [Nat.zero_add]
def L2f : Nat → Nat → List Nat
  | _, 0 => []
  | i, m + 1 => (PLf 0 i).map (fun x => x + 2 ^ i) ++ L2f (i + 1) m
theorem L2f_s : ∀ m i, L2f i (m + 1) = L2f i m ++ (PLf 0 (i + m)).map (fun x => x + 2 ^ (i + m))
  | 0, i => by
    show (PLf 0 i).map (fun x => x + 2 ^ i) ++ [] = [] ++ _
    rw [List.append_nil, List.nil_append, Nat.add_zero]
  | m + 1, i => by
    show (PLf 0 i).map (fun x => x + 2 ^ i) ++ L2f (i + 1) (m + 1) = ((PLf 0 i).map (fun x => x + 2 ^ i) ++ L2f (i + 1) m) ++ _
    rw [L2f_s m (i + 1), List.append_assoc, show i + 1 + m = i + (m + 1) by omega]
theorem LsA_2 : ∀ n, LsA n 2 = L2f 0 n
  | 0 => rfl
  | n + 1 => by
    show LsA n 2 ++ (LsA n 1).map (fun x => x + 2 ^ n) = _
    rw [LsA_2 n, LsA_1 n, L2f_s, Nat.zero_add]
theorem LsA_2' (n : Nat) (h : 1 ≤ n) : LsA n 2 = L2f 1 (n - 1) := by
  rw [LsA_2]
  obtain ⟨k, rfl⟩ : ∃ k, n = k + 1 := ⟨n - 1, by omega⟩
  rfl
theorem neg_cmp : ¬ nI 0 ≤ lg_cmp (-1) 0 := by decide
theorem pos_cmp {x : Nat} (h : x < 9223372036854775808) : nI 0 ≤ lg_cmp (gN x) 0 := by
  have e := lg_ge (c := 0) h (by omega)
  show nI 0 ≤ lg_cmp (gN x) (gN 0)
  rw [e]
  exact Nat.zero_le _
theorem or_gN {a c : Nat} : gN a ||| gN c = gN (a ||| c) := l_ext (fun i hi => by
  rw [l_or, bl_gN, bl_gN, bl_gN, decide_eq_true hi, Bool.true_and, Bool.true_and, Bool.true_and, Nat.testBit_or])
theorem or2_gN {a c : Nat} (h : a < c) : gN (2 ^ a) ||| gN (2 ^ c) = gN (2 ^ a + 2 ^ c) := by
  have e := Nat.two_pow_add_eq_or_of_lt (Nat.pow_lt_pow_right (a := 2) (by decide) h) 1
  rw [Nat.mul_one] at e
  rw [or_gN, Nat.or_comm, ← e, Nat.add_comm]
