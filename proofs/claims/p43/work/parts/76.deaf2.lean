/-! WHAT-IFS: deaf, against the reference -/
/-- the reference's cells as they were told, but for whom a doubt or a kind is another one -/
def sameP (I1 I' : MI) (L1 L' : ML) : Prop := (∀ j, j < 27 → j ≠ 17 → j ≠ 18 → j ≠ 19 → I' 186 j = I1 186 j) ∧ I' 187 = I1 187 ∧ L' 186 = L1 186
theorem sameP.fr {I1 I' I'' : MI} {L1 L' L'' : ML} (h : sameP I1 I' L1 L') (f : frM I' I'') (l : ∀ a, a ≠ 201 → L'' a = L' a) : sameP I1 I'' L1 L'' := ⟨fun j h1 h2 h3 h4 => (f.2 j (by omega) (by omega)).trans (h.1 j h1 h2 h3 h4), (f.1 187 (by omega)).trans h.2.1, (l 186 (by decide)).trans h.2.2⟩
