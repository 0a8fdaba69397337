/-! WHAT-IFS: barred ties, the reference -/
theorem LsA_1 : ∀ n, LsA n 1 = PLf 0 n
  | 0 => rfl
  | n + 1 => by
    show LsA n 1 ++ (LsA n 0).map (fun x => x + 2 ^ n) = _
    rw [LsA_1 n, LsA_0, PLf_s]
    show PLf 0 n ++ [0 + 2 ^ n] = _
    rw [Nat.zero_add]
def L2f : Nat → Nat → List Nat
  | _, 0 => []
  | i, m + 1 => (PLf 0 i).map (fun x => x + 2 ^ i) ++ L2f (i + 1) m
theorem L2f_s : ∀ m i, L2f i (m + 1) = L2f i m ++ (PLf 0 (i + m)).map (fun x => x + 2 ^ (i + m))
  | 0, i => by
    show (PLf 0 i).map (fun x => x + 2 ^ i) ++ [] = [] ++ _
    rw [List.append_nil, List.nil_append, Nat.add_zero]
  | m + 1, i => by
    show (PLf 0 i).map (fun x => x + 2 ^ i) ++ L2f (i + 1) (m + 1) = ((PLf 0 i).map (fun x => x + 2 ^ i) ++ L2f (i + 1) m) ++ _
    rw [L2f_s m (i + 1), List.append_assoc, show i + 1 + m = i + (m + 1) by omega]
theorem LsA_2 : ∀ n, LsA n 2 = L2f 0 n
  | 0 => rfl
  | n + 1 => by
    show LsA n 2 ++ (LsA n 1).map (fun x => x + 2 ^ n) = _
    rw [LsA_2 n, LsA_1 n, L2f_s, Nat.zero_add]
theorem LsA_2' (n : Nat) (h : 1 ≤ n) : LsA n 2 = L2f 1 (n - 1) := by
  rw [LsA_2]
  obtain ⟨k, rfl⟩ : ∃ k, n = k + 1 := ⟨n - 1, by omega⟩
  rfl
theorem WM_ba {v : Vil} {t : Tel} {f g : Nat → Bool} {b0 bf o : Nat} {w : Wd} {I I' : MI} {L L' : ML} (hm : ∀ p, p < 64 → bl (L' 186 21) p = g p) (hg : g v.m = false) (h1 : ∀ j, j < 27 → j ≠ 22 → I' 186 j = I 186 j) (e22 : I' 186 22 = nI bf) (h7 : I' 187 = I 187) (hL : L' 186 20 = L 186 20) (hb : bf ≤ 200) (h : WM v t (baX f b0) o w I L) : WM v t (baX g bf) o (mkW w.v v.m t (baX g bf)) I' L' := by
  obtain ⟨⟨a1, a2, a3, a4, a5⟩, ⟨b1, b2, b3⟩, c1, d1, e1⟩ := h
  refine ⟨⟨rfl, a2, a3, a4, baX_ok hb⟩, ⟨b1, (h1 11 (by omega) (by omega)).trans b2, vilM_fr h7 b3⟩, ?_, ?_, ?_⟩
  · unfold rtP telM at c1 ⊢
    rw [h7, h1 12 (by omega) (by omega)]
    exact c1
  · unfold rxP at d1 ⊢
    obtain ⟨z1, z2, z3, z4, z5, z6, z7, z8⟩ := d1
    rw [h1 26 (by omega) (by omega), h1 25 (by omega) (by omega), h1 13 (by omega) (by omega), h1 14 (by omega) (by omega), h1 15 (by omega) (by omega), h1 16 (by omega) (by omega), hL]
    exact ⟨z1, z2, z3, z4, z5, z6, hm, fun _ => e22⟩
  · unfold vmod at e1 ⊢
    rw [h1 17 (by omega) (by omega), h1 18 (by omega) (by omega), h1 19 (by omega) (by omega), h1 23 (by omega) (by omega), h1 24 (by omega) (by omega)]
    obtain ⟨y1, y2, y3, y4, y5⟩ := e1
    refine ⟨y1, y2, y3, y4, ?_⟩
    rcases y5 with y5 | ⟨q1, q2, q3, q4, q5, q6⟩
    · exact Or.inl y5
    · exact Or.inr ⟨q1, q2, q3, q4, q5, hg⟩
theorem neg_cmp : ¬ nI 0 ≤ lg_cmp (-1) 0 := by decide
theorem pos_cmp {x : Nat} (h : x < 9223372036854775808) : nI 0 ≤ lg_cmp (gN x) 0 := by
  have e := lg_ge (c := 0) h (by omega)
  show nI 0 ≤ lg_cmp (gN x) (gN 0)
  rw [e]
  exact Nat.zero_le _
theorem or_gN {a c : Nat} : gN a ||| gN c = gN (a ||| c) := l_ext (fun i hi => by
  rw [l_or, bl_gN, bl_gN, bl_gN, decide_eq_true hi, Bool.true_and, Bool.true_and, Bool.true_and, Nat.testBit_or])
theorem or2_gN {a c : Nat} (h : a < c) : gN (2 ^ a) ||| gN (2 ^ c) = gN (2 ^ a + 2 ^ c) := by
  have e := Nat.two_pow_add_eq_or_of_lt (Nat.pow_lt_pow_right (a := 2) (by decide) h) 1
  rw [Nat.mul_one] at e
  rw [or_gN, Nat.or_comm, ← e, Nat.add_comm]
