/-! TEXTS: the reference's tokens -/
def isC (x i : Nat) : Bool := decide (x = cod (nmW i) 0)
def wcO : Option Nat → Nat
  | some i => i + 1
  | none => 99
/-- the token's number in the reference -/
def tkM (y : Nat → Nat) (n w : Nat) : Nat := if kin y n w = 0 then 0 else if kin y n w = 1 then (match wrd y n w with
  | some _ => 3
  | none => 4) else if kin y n w = 2 then 1 else if kin y n w = 3 then 2 else 4
def xfr (I I' : MI) : Prop := (∀ a, a ≠ 186 → I' a = I a) ∧ ∀ j, j ≠ 3 → j ≠ 4 → j ≠ 5 → j ≠ 6 → j ≠ 7 → I' 186 j = I 186 j
theorem xfr.trans {I I' I'' : MI} (h : xfr I I') (k : xfr I' I'') : xfr I I'' := ⟨fun a ha => (k.1 a ha).trans (h.1 a ha), fun j q1 q2 q3 q4 q5 => (k.2 j q1 q2 q3 q4 q5).trans (h.2 j q1 q2 q3 q4 q5)⟩
theorem xfr_s {I : MI} {j : Nat} {v : Int32} (h : j = 3 ∨ j = 4 ∨ j = 5 ∨ j = 6 ∨ j = 7) : xfr I (sI I 186 j v) := ⟨fun a ha => sI_c ha, fun i q1 q2 q3 q4 q5 => sI_j (by omega)⟩
theorem cod_lt : ∀ l, letL l → ∀ a, cod l a < (a + 1) * 32 ^ l.length
  | [], _, a => by
    show a < (a + 1) * 1
    omega
  | x :: l, h, a => by
    have hx := h x (List.mem_cons_self ..)
    have ih := cod_lt l (fun q hq => h q (List.mem_cons_of_mem _ hq)) (32 * a + (x - 96))
    show cod l (32 * a + (x - 96)) < (a + 1) * 32 ^ (l.length + 1)
    have e : (a + 1) * 32 ^ (l.length + 1) = (32 * (a + 1)) * 32 ^ l.length := by
      rw [Nat.pow_succ, ← Nat.mul_assoc, Nat.mul_comm _ 32, ← Nat.mul_assoc]
    rw [e]
    exact Nat.lt_of_lt_of_le ih (Nat.mul_le_mul_right _ (by omega))
/-- what the letters so far say -/
theorem wrd_cod {y : Nat → Nat} {n w : Nat} (hw : w < n) (hl : isLt (y w) = true) (h6 : nxt y n w - w ≤ 6) : fstN (isC (cod (lts y (nxt y n w - w) w) 0)) 14 0 = wrd y n w := by
  have en : nxt y n w = rnT isLt y n w := by
    unfold nxt
    rw [if_neg (by omega), if_pos hl]
  have hL : letL (lts y (nxt y n w - w) w) := fun x hx => by
    obtain ⟨q, q1, q2, rfl⟩ := lts_mem _ _ hx
    rw [en] at q2
    exact lt_le (rnT_in (f := isLt) (y := y) (n := n) (p := w) (by omega) q1 (by omega))
  have e : ∀ i, i < 14 → isC (cod (lts y (nxt y n w - w) w) 0) i = isW y n w i := fun i hi => by
    unfold isC isW
    exact decide_eq_decide.mpr ⟨fun h => cod_inj _ _ _ rfl hL (nmW_letL hi) h, fun h => by rw [h]⟩
  have cong : ∀ k i, i + k ≤ 14 → fstN (isC (cod (lts y (nxt y n w - w) w) 0)) k i = fstN (isW y n w) k i := by
    intro k
    induction k with
    | zero => exact fun i _ => rfl
    | succ k ih =>
      intro i hi
      unfold fstN
      rw [e i (by omega), ih (i + 1) (by omega)]
  exact cong 14 0 (by omega)
theorem wrd_long {y : Nat → Nat} {n w : Nat} (h6 : 6 < nxt y n w - w) : wrd y n w = none := by
  refine fstN_none.mpr (fun i _ hi => ?_)
  refine decide_eq_false (fun e => ?_)
  have := congrArg List.length e
  rw [lts_len] at this
  have := nmW_len i (by omega)
  omega
