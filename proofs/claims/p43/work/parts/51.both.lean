/-! areBoth, takesIn of the reference -/
def hc (h0 h1 : Bool) : Nat := h0.toNat + 2 * h1.toNat
theorem hc_lt (h0 h1 : Bool) : hc h0 h1 < 4 := by cases h0 <;> cases h1 <;> decide
theorem hc_or : ∀ (h0 h1 u v : Bool), (nI (hc h0 h1) ||| nI u.toNat) ||| nI (2 * v.toNat) = nI (hc (h0 || u) (h1 || v)) := by decide
theorem hc_0 : ∀ (h0 h1 : Bool), (nI (hc h0 h1) = nI 0) = (h0 = false ∧ h1 = false) := by decide
theorem hc_2 : ∀ (h0 h1 : Bool), (nI (hc h0 h1) = nI 2) = (h0 = false ∧ h1 = true) := by decide
theorem hc_1 : ∀ (h0 h1 : Bool), (nI (hc h0 h1) = nI 1) = (h0 = true ∧ h1 = false) := by decide
theorem hc_b0 : ∀ (h0 h1 : Bool), bt (nI (hc h0 h1)) 0 = h0 := by decide
theorem hc_b1 : ∀ (h0 h1 : Bool), bt (nI (hc h0 h1)) 1 = h1 := by decide
section
variable {v : Vil} {t : Tel} {x : Wi} {o : Nat} {w : Wd} {b : Bool} {I : MI} {L : ML}
end
/-- the reference takes up a village and a telling -/
theorem plain_made {B : Bk} {k o : Nat} {t : Tel} {I I' : MI} {L' : ML} (ok : B.ok) (hm : bkM 0 B I) (hk : k < B.nv) (ho : o = 610 + 200 * k) (ht : t.ok) (hI : I' 187 = I 187) (h11 : I' 186 11 = nI o) (hT : rtP t I') (e13 : I' 186 13 = nI 0) (e16 : I' 186 16 = nI 0) (e17 : I' 186 17 = nM) (e23 : I' 186 23 = nM) (e26 : I' 186 26 = nI 0) (l20 : L' 186 20 = 0) (l21 : L' 186 21 = 0) : WM (B.vl k) t wi0 o (mkW (B.vl k) (B.vl k).m t wi0) I' L' := by
  subst ho
  have h1 := ok.1.1
  have hv := ok.2.2.1 k hk
  have hV := hm.2.2.1 k hk
  rw [Nat.zero_add] at hV
  refine ⟨⟨rfl, ?_, hv, ht, wi0_ok⟩, ⟨⟨by omega, by omega⟩, h11, vilM_fr hI hV⟩, hT, ⟨e26, fun p hp h => ?_, fun p hp => ?_, fun h => ?_, fun p hp => ?_, fun p hp => ?_, fun p hp => ?_, fun h => ?_⟩, ⟨rfl, rfl, rfl, rfl⟩, fun t ht => ⟨rfl, rfl, rfl, rfl⟩, fun p hp => Or.inr ⟨Or.inl ?_, rfl⟩, fun p hp => Or.inr ⟨Or.inl ?_, rfl⟩, Or.inl ⟨e23, rfl⟩⟩
  · obtain ⟨q1, q2, q3, q4, q5, q6, q7⟩ := hv
    exact ⟨q1, by show (B.vl k).m ≤ 41; omega, q3, q4, q5, q6, fun t ht => ⟨(q7 t ht).1, (q7 t ht).2.1, fun h => absurd h (by omega), (q7 t ht).2.2.2⟩⟩
  · cases h
  · rw [e13, b_0]; rfl
  · cases h
  · rw [e16, b_0]; rfl
  · rw [l20, l_0]; rfl
  · rw [l21, l_0]; rfl
  · cases h
  · rw [e17, n_eqm (by omega)]; exact id
  · rw [e17, n_eqm (by omega)]; exact id
