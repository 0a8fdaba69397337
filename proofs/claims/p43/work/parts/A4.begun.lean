/-! BEGUN, ORIGIN: those told so are among them (pure) -/
theorem bgF_n {P : Nat → Bool} : ∀ (l : List Nat) (m : Nat), m + l.length < 1000 → bgF P nM l m = nI (m + cntL P l)
  | [], m, _ => by
    unfold bgF
    rw [if_pos rfl]
    rfl
  | x :: l, m, h => by
    have h : m + (l.length + 1) < 1000 := h
    have hne : ¬ nI m = nM := by
      rw [n_eqm (by omega)]
      exact not_false
    unfold bgF cntL
    cases c : P x with
    | true =>
      rw [if_pos rfl, if_neg hne, bgF_n l (m + 1) (by omega)]
      congr 1
      show m + 1 + cntL P l = m + (1 + cntL P l)
      omega
    | false =>
      rw [if_neg Bool.false_ne_true, bgF_n l m (by omega)]
      congr 1
      show m + cntL P l = m + (0 + cntL P l)
      omega
theorem cntL_le {P : Nat → Bool} : ∀ l : List Nat, cntL P l ≤ l.length
  | [] => Nat.le_refl _
  | z :: l => by
    have := cntL_le (P := P) l
    have h1 : (P z).toNat ≤ 1 := by cases P z <;> decide
    show (P z).toNat + cntL P l ≤ l.length + 1
    omega
/-- the k-th one is there for some k -/
theorem bgF_at {P : Nat → Bool} {x : Nat} (hP : P x = true) : ∀ (l : List Nat) (m : Nat), m + l.length < 1000 → x ∈ l → ∃ k, m ≤ k ∧ k < m + cntL P l ∧ bgF P (nI k) l m = nI x
  | y :: l, m, h, hx => by
    have h : m + (l.length + 1) < 1000 := h
    unfold bgF cntL
    by_cases e : x = y
    · subst e
      refine ⟨m, Nat.le_refl _, ?_, ?_⟩
      · rw [hP]
        show m < m + (1 + cntL P l)
        omega
      · rw [if_pos hP, if_pos rfl]
    · have hx : x ∈ l := (List.mem_cons.mp hx).resolve_left e
      cases c : P y with
      | true =>
        obtain ⟨k, h1, h2, h3⟩ := bgF_at hP l (m + 1) (by omega) hx
        refine ⟨k, by omega, by show k < m + (1 + cntL P l); omega, ?_⟩
        have hlt : k < 1000 := by
          have := cntL_le (P := P) l
          omega
        rw [if_pos rfl, if_neg (by rw [n_eq (by omega) (by omega)]; omega)]
        exact h3
      | false =>
        obtain ⟨k, h1, h2, h3⟩ := bgF_at hP l m (by omega) hx
        refine ⟨k, h1, by show k < m + (0 + cntL P l); omega, ?_⟩
        rw [if_neg Bool.false_ne_true]
        exact h3
theorem L12_mem {i p q : Nat} : ∀ m, i ≤ p → p < i + m → q ≤ p → (2 ^ p ||| 2 ^ q) ∈ L12 i m := by
  intro m
  induction m generalizing i with
  | zero => intro h1 h2; omega
  | succ m ih =>
    intro h1 h2 h3
    show _ ∈ blk i ++ L12 (i + 1) m
    by_cases e : i = p
    · refine List.mem_append_left _ ?_
      subst e
      unfold blk
      by_cases z : q = i
      · subst z
        rw [Nat.or_self]
        exact List.mem_map.mpr ⟨0, List.mem_cons_self, Nat.add_zero _⟩
      · have hl : q < i := by omega
        have e2 := Nat.two_pow_add_eq_or_of_lt (Nat.pow_lt_pow_right (a := 2) (by decide) hl) 1
        rw [Nat.mul_one] at e2
        rw [← e2]
        refine List.mem_map.mpr ⟨2 ^ q, List.mem_cons_of_mem _ ?_, rfl⟩
        exact List.mem_map.mpr ⟨q, List.mem_range'_1.mpr ⟨Nat.zero_le _, by omega⟩, rfl⟩
    · exact List.mem_append_right _ (ih (by omega) (by omega) h3)
theorem L12_or {n p q : Nat} (hp : p < n) (hq : q < n) : (2 ^ p ||| 2 ^ q) ∈ L12 0 n := by
  rcases Nat.le_total q p with h | h
  · exact L12_mem n (Nat.zero_le _) (by omega) h
  · rw [Nat.or_comm]
    exact L12_mem n (Nat.zero_le _) (by omega) h
theorem L12_len : ∀ m i, i + m ≤ 16 → (L12 i m).length ≤ m * 17
  | 0, _, _ => Nat.le_refl _
  | m + 1, i, h => by
    show (blk i ++ L12 (i + 1) m).length ≤ _
    rw [List.length_append]
    have := L12_len m (i + 1) (by omega)
    have e : (blk i).length = i + 1 := by
      unfold blk PLf
      simp
    omega
theorem lsN_zero {e : Nat → Nat} {p : Nat} (h : e p = 0) : ∀ n, p < n → lsV e (lsN e n) = 0
  | n + 1, hp => by
    unfold lsN
    by_cases q : p = n
    · subst q
      cases c : lsN e p with
      | none => exact h
      | some j =>
        dsimp only
        split
        · exact h
        · rename_i z
          rw [h] at z
          show e j = 0
          omega
    · have ih := lsN_zero h n (by omega)
      cases c : lsN e n with
      | none =>
        rw [c] at ih
        exact absurd ih (by decide : ¬ (1000 : Nat) = 0)
      | some j =>
        rw [c] at ih
        have ih : e j = 0 := ih
        dsimp only
        rw [if_neg (by omega)]
        exact ih
theorem cntB_zero {f : Nat → Bool} : ∀ {n : Nat}, (∀ i, i < n → f i = false) → cntB f n = 0
  | 0, _ => rfl
  | n + 1, h => by
    show cntB f n + (f n).toNat = 0
    rw [cntB_zero (fun i hi => h i (by omega)), h n (by omega)]
    rfl
