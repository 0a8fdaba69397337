/-! WHAT-IFS: join, the reference -/
theorem WM_jn {v : Vil} {t : Tel} {o a c : Nat} {I1 I' : MI} {L1 L' : ML} (W : WM v t wi0 o (mkW v v.m t wi0) I1 L1) (P : plP I1) (ha : a < v.n) (hc : c < v.n) (S : ∀ j, j < 27 → j ≠ 23 → j ≠ 24 → I' 186 j = I1 186 j) (s2 : I' 187 = I1 187) (s3 : L' 186 = L1 186) (e23 : I' 186 23 = nI a) (e24 : I' 186 24 = nI c) : WM v t wi0 o (joW v t a c) I' L' := by
  obtain ⟨⟨a1, a2, a3, a4, a5⟩, ⟨b1, b2, b3⟩, c1, d1, e1⟩ := W
  have P := P
  obtain ⟨p1, p2, p3, p4, p5, p6⟩ := P
  refine ⟨⟨rfl, addV_ok a3 ha hc, a3, a4, a5⟩, ⟨b1, (S 11 (by omega) (by omega) (by omega)).trans b2, vilM_fr s2 b3⟩, ?_, ?_, ?_⟩
  · unfold rtP telM at c1 ⊢
    rw [s2, S 12 (by omega) (by omega) (by omega)]
    exact c1
  · unfold rxP at d1 ⊢
    rw [S 26 (by omega) (by omega) (by omega), S 25 (by omega) (by omega) (by omega), S 13 (by omega) (by omega) (by omega), S 14 (by omega) (by omega) (by omega), S 15 (by omega) (by omega) (by omega), S 16 (by omega) (by omega) (by omega), S 22 (by omega) (by omega) (by omega), s3]
    exact d1
  · refine ⟨⟨rfl, rfl, rfl, rfl⟩, fun k hk => ⟨if_neg (by omega), if_neg (by omega), if_neg (by omega), if_neg (by omega)⟩, fun q hq => Or.inr ⟨Or.inl ?_, rfl⟩, fun q hq => Or.inr ⟨Or.inl ?_, rfl⟩, Or.inr ⟨⟨?_, ?_⟩, rfl, if_pos rfl, if_pos rfl, rfl, rfl⟩⟩
    · rw [S 17 (by omega) (by omega) (by omega), p1, n_eqm (by omega)]
      exact id
    · rw [S 17 (by omega) (by omega) (by omega), p1, n_eqm (by omega)]
      exact id
    · rw [e23]
      exact congrArg nI (if_pos rfl : (if v.m = v.m then a else v.fr v.m) = a).symm
    · rw [e24]
      exact congrArg nI (if_pos rfl : (if v.m = v.m then c else v.to v.m) = c).symm
