/-! TEXTS: the reference's steps of a line -/
theorem cl0 : ((0 : Int32)).toNatClampNeg = 0 := n_cl (a := 0) (by omega)
theorem cl1 : ((1 : Int32)).toNatClampNeg = 1 := n_cl (a := 1) (by omega)
theorem cl2 : ((2 : Int32)).toNatClampNeg = 2 := n_cl (a := 2) (by omega)
theorem cl3 : ((3 : Int32)).toNatClampNeg = 3 := n_cl (a := 3) (by omega)
theorem cl4 : ((4 : Int32)).toNatClampNeg = 4 := n_cl (a := 4) (by omega)
theorem vpN {k m : Nat} (h : k < m) (hk : k < 2147483648) : vp_in (nI k) m := by
  rw [n_in hk]
  exact h
theorem vp3A : vp_in (3 : Int32) 5504 := vpN (k := 3) (by omega) (by omega)
theorem vp4A : vp_in (4 : Int32) 5504 := vpN (k := 4) (by omega) (by omega)
theorem tk_le (y : Nat → Nat) (n w : Nat) : tkM y n w ≤ 4 := by
  unfold tkM
  repeat' split
  all_goals omega
theorem tkq_0 {y : Nat → Nat} {n w : Nat} : tkM y n w = 0 ↔ kin y n w = 0 := by
  unfold tkM
  have := kin_le y n w
  rcases (by omega : kin y n w = 0 ∨ kin y n w = 1 ∨ kin y n w = 2 ∨ kin y n w = 3 ∨ kin y n w = 4) with e | e | e | e | e <;> rw [e] <;> simp
  split <;> simp
theorem tkq_1 {y : Nat → Nat} {n w : Nat} : tkM y n w = 1 ↔ kin y n w = 2 := by
  unfold tkM
  have := kin_le y n w
  rcases (by omega : kin y n w = 0 ∨ kin y n w = 1 ∨ kin y n w = 2 ∨ kin y n w = 3 ∨ kin y n w = 4) with e | e | e | e | e <;> rw [e] <;> simp
  split <;> simp
theorem tkq_2 {y : Nat → Nat} {n w : Nat} : tkM y n w = 2 ↔ kin y n w = 3 := by
  unfold tkM
  have := kin_le y n w
  rcases (by omega : kin y n w = 0 ∨ kin y n w = 1 ∨ kin y n w = 2 ∨ kin y n w = 3 ∨ kin y n w = 4) with e | e | e | e | e <;> rw [e] <;> simp
  split <;> simp
theorem tkq_3 {y : Nat → Nat} {n w : Nat} : tkM y n w = 3 ↔ kin y n w = 1 ∧ wrd y n w ≠ none := by
  unfold tkM
  have := kin_le y n w
  rcases (by omega : kin y n w = 0 ∨ kin y n w = 1 ∨ kin y n w = 2 ∨ kin y n w = 3 ∨ kin y n w = 4) with e | e | e | e | e <;> rw [e] <;> simp
  cases wrd y n w <;> simp
/-- what a step changes: the tokens, the fault (q = 9: the greatest; r = 189: what is read) -/
def lfr (q r : Nat) (I I' : MI) : Prop := (∀ a, a ≠ 186 → a ≠ 187 → a ≠ r → I' a = I a) ∧ (∀ j, j ≠ 3 → j ≠ 4 → I' 187 j = I 187 j) ∧ ∀ j, j < 3 ∨ q < j → I' 186 j = I 186 j
theorem lfr.trans {q r : Nat} {I I' I'' : MI} (h : lfr q r I I') (k : lfr q r I' I'') : lfr q r I I'' := ⟨fun a a1 a2 a3 => (k.1 a a1 a2 a3).trans (h.1 a a1 a2 a3), fun j j1 j2 => (k.2.1 j j1 j2).trans (h.2.1 j j1 j2), fun j hj => (k.2.2 j hj).trans (h.2.2 j hj)⟩
theorem lfr_0 {q r : Nat} {I : MI} : lfr q r I I := ⟨fun _ _ _ _ => rfl, fun _ _ _ => rfl, fun _ _ => rfl⟩
theorem lfr.up {q r q' r' : Nat} {I I' : MI} (h : lfr q r I I') (hq : q ≤ q') (hr : r = r' ∨ r = 187) : lfr q' r' I I' := ⟨fun a a1 a2 a3 => h.1 a a1 a2 (by omega), h.2.1, fun j hj => h.2.2 j (by omega)⟩
theorem lfr_9 {I : MI} {v : Int32} : lfr 9 187 I (sI I 186 9 v) := ⟨fun a a1 a2 a3 => sI_c a1, fun j j1 j2 => by rw [sI_c (by omega)], fun j hj => sI_j (by omega)⟩
theorem lfr_r {I : MI} {j : Nat} {v : Int32} : lfr 9 189 I (sI I 189 j v) := ⟨fun a a1 a2 a3 => sI_c a3, fun j j1 j2 => by rw [sI_c (by omega)], fun j hj => by rw [sI_c (by omega)]⟩
theorem lfr_f {I : MI} {k p : Int32} : lfr 8 187 I (sI (sI I 187 3 k) 187 4 p) := ⟨fun a a1 a2 a3 => by rw [sI_c a2, sI_c a2], fun j j1 j2 => by rw [sI_j j2, sI_j j1], fun j hj => by rw [sI_c (by omega), sI_c (by omega)]⟩
theorem xfr.l {I I' : MI} (h : xfr I I') : lfr 8 187 I I' := ⟨fun a a1 _ _ => h.1 a a1, fun j _ _ => by rw [h.1 187 (by omega)], fun j hj => h.2 j (by omega) (by omega) (by omega) (by omega) (by omega)⟩
/-- a fault so far lies before -/
def bf (S : Sm) (c : Nat) : Prop := S.fl ≠ 0 → S.fl ≠ 1 → S.pl < c
theorem bf_up {S : Sm} {c c' : Nat} (h : bf S c) (k : c ≤ c') : bf S c' := fun a b => Nat.lt_of_lt_of_le (h a b) k
theorem blm_bf {k w c : Nat} {S : Sm} (h : bf S c) (hc : w < c) : bf (blm k w S) c := by
  unfold blm
  by_cases h0 : S.fl = 0
  · rw [if_pos h0]
    exact fun _ _ => hc
  · rw [if_neg h0]
    exact h
theorem blm_n1 {k w : Nat} {S : Sm} (hk : 2 ≤ k) (h : S.fl ≠ 1) : (blm k w S).fl ≠ 1 := by
  unfold blm
  by_cases h0 : S.fl = 0
  · rw [if_pos h0]
    exact show k ≠ 1 by omega
  · rw [if_neg h0]
    exact h
theorem accW_0 {i a x w : Nat} {S : Sm} (h : S.fl = 0) (k : mayW i a x S.nb = true) : (accW i a x w S).fl = 0 ∧ (accW i a x w S).pl = S.pl ∧ (accW i a x w S).gr = (if isPW i a = true then (if S.gr < x then x else S.gr) else S.gr) ∧ (accW i a x w S).vv = (if isKW i = true then setKd S.vv x (i - 1) else S.vv) ∧ (accW i a x w S).tt = S.tt ∧ (accW i a x w S).nb = (fun j => if j = a then x else S.nb j) := by
  unfold accW
  rw [if_pos h, if_pos k]
  exact ⟨rfl, rfl, rfl, rfl, rfl, rfl⟩
theorem accW_1 {i a x w : Nat} {S : Sm} (h : S.fl = 0) (k : mayW i a x S.nb = false) : accW i a x w S = blm 2 w S := by
  unfold accW
  rw [if_pos h, if_neg (by rw [k]; exact Bool.false_ne_true)]
theorem accW_2 {i a x w : Nat} {S : Sm} (h : S.fl ≠ 0) : accW i a x w S = S := if_neg h
theorem accW_bf {i a x w : Nat} {S : Sm} (h1 : S.fl ≠ 1) (h : bf S (w + 1)) : (accW i a x w S).fl ≠ 1 ∧ bf (accW i a x w S) (w + 1) := by
  by_cases h0 : S.fl = 0
  · cases c : mayW i a x S.nb with
    | true =>
      obtain ⟨q1, q2, -⟩ := accW_0 (w := w) h0 c
      exact ⟨by rw [q1]; decide, fun z => absurd q1 z⟩
    | false =>
      rw [accW_1 h0 c]
      exact ⟨blm_n1 (by omega) h1, blm_bf h (by omega)⟩
  · rw [accW_2 h0]
    exact ⟨h1, h⟩
