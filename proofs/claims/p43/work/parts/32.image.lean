/-! IMAGES -/
theorem vilM_sh {o o' : Nat} {v : Vil} {I I' : MI} (hv : v.m ≤ 40) (h : ∀ j, j < 200 → I' 187 (o' + j) = I 187 (o + j)) (k : vilM o v I) : vilM o' v I' := by
  obtain ⟨⟨v1, v2, v3, v4, v5⟩, v6, v7⟩ := k
  refine ⟨⟨(h 0 (by omega)).trans v1, (h 1 (by omega)).trans v2, (h 2 (by omega)).trans v3, (h 3 (by omega)).trans v4, (h 4 (by omega)).trans v5⟩, fun p hp => ?_, fun t ht => ?_⟩
  · have e1 := h (5 + p) (by omega)
    have e2 := h (21 + p) (by omega)
    simp only [← Nat.add_assoc] at e1 e2
    rw [e1, e2]
    exact v6 p hp
  · have e1 := h (37 + 4 * t) (by omega)
    have e2 := h (37 + 4 * t + 1) (by omega)
    have e3 := h (37 + 4 * t + 2) (by omega)
    have e4 := h (37 + 4 * t + 3) (by omega)
    simp only [← Nat.add_assoc] at e1 e2 e3 e4
    rw [e1, e2, e3, e4]
    exact v7 t ht
theorem telM_sh {o o' : Nat} {t : Tel} {I I' : MI} (ht : t.n ≤ 30) (h : ∀ j, j < 122 → I' 187 (o' + j) = I 187 (o + j)) (k : telM o t I) : telM o' t I' := by
  obtain ⟨v1, v7⟩ := k
  refine ⟨(h 0 (by omega)).trans v1, fun t ht => ?_⟩
  have e1 := h (1 + 4 * t) (by omega)
  have e2 := h (1 + 4 * t + 1) (by omega)
  have e3 := h (1 + 4 * t + 2) (by omega)
  have e4 := h (1 + 4 * t + 3) (by omega)
  simp only [← Nat.add_assoc] at e1 e2 e3 e4
  rw [e1, e2, e3, e4]
  exact v7 t ht
theorem bkM_sh {o o' : Nat} {B : Bk} {I I' : MI} (hB : B.ok) (h : ∀ j, j < 1376 → I' 187 (o' + j) = I 187 (o + j)) (k : bkM o B I) : bkM o' B I' := by
  obtain ⟨⟨v1, v2, v3, v4, v5⟩, k2, k3, k4⟩ := k
  obtain ⟨⟨o1, o2, o3, o4⟩, o5, o6, o7⟩ := hB
  refine ⟨⟨(h 0 (by omega)).trans v1, (h 1 (by omega)).trans v2, (h 2 (by omega)).trans v3, (h 3 (by omega)).trans v4, (h 4 (by omega)).trans v5⟩, fun j hj => ?_, fun j hj => ?_, fun j hj => ?_⟩
  · have e1 := h (10 + j) (by omega)
    simp only [← Nat.add_assoc] at e1
    rw [e1]
    exact k2 j hj
  · refine vilM_sh (o6 j hj).2.1 (fun i hi => ?_) (k3 j hj)
    have e1 := h (610 + 200 * j + i) (by omega)
    simp only [← Nat.add_assoc] at e1
    exact e1
  · refine telM_sh (o7 j hj).1 (fun i hi => ?_) (k4 j hj)
    have e1 := h (1010 + 122 * j + i) (by omega)
    simp only [← Nat.add_assoc] at e1
    exact e1
