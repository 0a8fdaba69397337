/-! WHAT-IFS: deaf, against the reference -/
/-- the reference's cells as they were told, but for whom a doubt or a kind is another one -/
def sameP (I1 I' : MI) (L1 L' : ML) : Prop := (∀ j, j < 27 → j ≠ 17 → j ≠ 18 → j ≠ 19 → I' 186 j = I1 186 j) ∧ I' 187 = I1 187 ∧ L' 186 = L1 186
theorem sameP.fr {I1 I' I'' : MI} {L1 L' L'' : ML} (h : sameP I1 I' L1 L') (f : frM I' I'') (l : ∀ a, a ≠ 201 → L'' a = L' a) : sameP I1 I'' L1 L'' := ⟨fun j h1 h2 h3 h4 => (f.2 j (by omega) (by omega)).trans (h.1 j h1 h2 h3 h4), (f.1 187 (by omega)).trans h.2.1, (l 186 (by decide)).trans h.2.2⟩
theorem WM_db {v : Vil} {t : Tel} {o p d : Nat} {I1 I' : MI} {L1 L' : ML} (W : WM v t wi0 o (mkW v v.m t wi0) I1 L1) (P : plP I1) (h1 : 1 ≤ d) (h2 : d ≤ 99) (S : sameP I1 I' L1 L') (e17 : I' 186 17 = nI p) (e18 : I' 186 18 = nM) (e19 : I' 186 19 = nI d) (hp : p < 16) : WM v t wi0 o (dfW v t p d) I' L' := by
  obtain ⟨⟨a1, a2, a3, a4, a5⟩, ⟨b1, b2, b3⟩, c1, d1, e1⟩ := W
  obtain ⟨s1, s2, s3⟩ := S
  refine ⟨⟨rfl, setDb_ok a2 h1 h2, a3, a4, a5⟩, ⟨b1, (s1 11 (by omega) (by omega) (by omega) (by omega)).trans b2, vilM_fr s2 b3⟩, ?_, ?_, ?_⟩
  · unfold rtP telM at c1 ⊢
    rw [s2, s1 12 (by omega) (by omega) (by omega) (by omega)]
    exact c1
  · unfold rxP at d1 ⊢
    rw [s1 26 (by omega) (by omega) (by omega) (by omega), s1 25 (by omega) (by omega) (by omega) (by omega), s1 13 (by omega) (by omega) (by omega) (by omega), s1 14 (by omega) (by omega) (by omega) (by omega), s1 15 (by omega) (by omega) (by omega) (by omega), s1 16 (by omega) (by omega) (by omega) (by omega), s1 22 (by omega) (by omega) (by omega) (by omega), s3]
    exact d1
  · refine ⟨⟨rfl, rfl, rfl, rfl⟩, fun k hk => ⟨rfl, rfl, rfl, rfl⟩, fun q hq => Or.inr ⟨Or.inr ?_, rfl⟩, fun q hq => ?_, Or.inl ⟨?_, rfl⟩⟩
    · rw [e18]
      decide
    · rw [e17, e19]
      show (nI p = nI q ∧ nI d = nI (if q = p then d else v.db q)) ∨ ((¬ nI q = nI p ∨ nI d < nI 0) ∧ (if q = p then d else v.db q) = v.db q)
      by_cases c : q = p
      · subst c
        rw [if_pos rfl]
        exact Or.inl ⟨rfl, rfl⟩
      · rw [if_neg c]
        refine Or.inr ⟨Or.inl ?_, rfl⟩
        rw [n_eq (by omega) (by omega)]
        exact c
    · rw [s1 23 (by omega) (by omega) (by omega) (by omega)]
      exact P.2.2.2.1
