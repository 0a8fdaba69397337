/-! A DAY of the reference: what each one hears and has -/
/-- the first day on which any comes to one; by whom -/
def hon (w : Wd) (s p N : Nat) : Option Nat := fstN (fun e => decide (0 < camS w e (stp w e) s p)) N 0
def honI : Option Nat → Int32
  | none => nM
  | some e => nI e
def hbyI (w : Wd) (s p : Nat) : Option Nat → Int32
  | none => nM
  | some e => if 0 < (stp w e).du s 1 p then nI ((stp w e).bf s 1 p) else nM
theorem fstN_succ {f : Nat → Bool} {N : Nat} : fstN f (N + 1) 0 = (match fstN f N 0 with
    | some e => some e
    | none => if f N = true then some N else none) := by
  cases h : fstN f N 0 with
  | some e =>
    obtain ⟨⟨h1, h2⟩, h3, h4⟩ := fstN_some h
    exact fstN_at (Nat.zero_le _) (by omega) (fun j _ j2 => h4 j (Nat.zero_le _) j2) h3
  | none =>
    have h0 := fstN_none.mp h
    dsimp only
    by_cases c : f N = true
    · rw [if_pos c]
      exact fstN_at (Nat.zero_le _) (by omega) (fun j _ j2 => h0 j (Nat.zero_le _) (by omega)) c
    · rw [if_neg c]
      refine fstN_none.mpr (fun i _ i2 => ?_)
      by_cases e : i = N
      · subst e; exact Bool.eq_false_iff.mpr c
      · exact h0 i (Nat.zero_le _) (by omega)
/-- what is to come, ahead of a day -/
def cmP (w : Wd) (d : Nat) (I : MI) : Prop := ∀ j, j < 8 → ∀ s, s < 2 → ∀ p, p < 16 → I 195 (32 * ((d + j) % 8) + 2 * p + s) = nI ((stp w d).du s (j + 1) p) ∧ I 196 (32 * ((d + j) % 8) + 2 * p + s) = nI ((stp w d).bf s (j + 1) p)
/-- who has heard, of the first persons a day more -/
def heaP (w : Wd) (d i : Nat) (I : MI) : Prop := ∀ s, s < 2 → ∀ p, p < w.v.n → I 198 (2 * p + s) = honI (hon w s p (if p < i then d + 1 else d)) ∧ I 199 (2 * p + s) = hbyI w s p (hon w s p (if p < i then d + 1 else d))
/-- a day's numbers of one person -/
def perM (w : Wd) (d p : Nat) (I : MI) : Prop := I 190 (16 * d + p) = nI (hc (haS w d (stp w d) 0 p) (haS w d (stp w d) 1 p)) ∧ I 191 (16 * d + p) = nI (hrdS w d (stp w d) 0 p) ∧ I 192 (16 * d + p) = nI (hrdS w d (stp w d) 1 p) ∧ I 193 (16 * d + p) = zI (tkS w d (stp w d) p).2.2
