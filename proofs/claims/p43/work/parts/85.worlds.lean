/-! WHAT-IFS: worlds -/
def wsE (B : Bk) (a1 a2 x h : Int32) (d k : Nat) : Nat := if h = nI 0 then (cleanB (drW B a1 a2 (x + nI k))).toNat else hdN (drW B a1 a2 (x + nI k)) d
def in20 (a : Int32) : Bool := inR a 21 && !decide (a = nI 0)
theorem in20_iff {a : Int32} : in20 a = true ↔ ∃ k, (1 ≤ k ∧ k ≤ 20) ∧ a = nI k := by
  unfold in20
  rw [Bool.and_eq_true, inR_iff (by decide)]
  constructor
  · rintro ⟨⟨k, h1, rfl⟩, h2⟩
    refine ⟨k, ⟨?_, by omega⟩, rfl⟩
    rcases Nat.eq_zero_or_pos k with e | e
    · subst e
      rw [decide_eq_true rfl] at h2
      cases h2
    · exact e
  · rintro ⟨k, h1, rfl⟩
    refine ⟨⟨k, by omega, rfl⟩, ?_⟩
    rw [decide_eq_false (by rw [n_eq (by omega) (by omega)]; omega)]
    rfl
theorem in20_out {a : Int32} (h : in20 a = false) : a < nI 0 ∨ a = nI 0 ∨ ∃ j, 20 < j ∧ j < 2147483648 ∧ a = nI j := by
  rcases n_sgn a with q | ⟨j, g, rfl⟩
  · exact Or.inl q
  · rcases Nat.eq_zero_or_pos j with e | e
    · exact Or.inr (Or.inl (by rw [e]))
    · refine Or.inr (Or.inr ⟨j, Nat.not_le.mp (fun q => ?_), g, rfl⟩)
      rw [in20_iff.mpr ⟨j, ⟨e, q⟩, rfl⟩] at h
      cases h
