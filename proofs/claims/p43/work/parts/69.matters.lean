/-! WHAT-IFS: matters -/
theorem WM_si {v : Vil} {t : Tel} {f g : Nat → Bool} {o : Nat} {w : Wd} {I : MI} {L : ML} {m : Int32} (hm : ∀ p, p < 32 → bt m p = g p) (h : WM v t (siX f) o w I L) : WM v t (siX g) o (mkW w.v v.m t (siX g)) (sI I 186 16 m) L := by
  obtain ⟨⟨a1, a2, a3, a4, a5⟩, ⟨b1, b2, b3⟩, c1, d1, e1⟩ := h
  have e7 : sI I 186 16 m 187 = I 187 := sI_c (by omega)
  refine ⟨⟨rfl, a2, a3, a4, siX_ok g⟩, ⟨b1, by rw [sI_j (by omega)]; exact b2, vilM_fr e7 b3⟩, ?_, ?_, ?_⟩
  · unfold rtP telM at c1 ⊢
    rw [e7, sI_j (by omega)]
    exact c1
  · unfold rxP at d1 ⊢
    obtain ⟨z1, z2, z3, z4, z5, z6, z7, z8⟩ := d1
    refine ⟨?_, ?_, ?_, ?_, ?_, z6, z7, ?_⟩
    · rw [sI_j (by omega)]
      exact z1
    · rw [sI_j (by omega)]
      exact z2
    · rw [sI_j (by omega)]
      exact z3
    · rw [sI_j (by omega), sI_j (by omega)]
      exact z4
    · rw [sI_at]
      exact hm
    · rw [sI_j (by omega)]
      exact z8
  · unfold vmod at e1 ⊢
    rw [sI_j (by omega), sI_j (by omega), sI_j (by omega), sI_j (by omega), sI_j (by omega)]
    exact e1
theorem WM_wx {B : Bk} {a1 a2 : Int32} {x y z : Wi} {o : Nat} {I : MI} {L : ML} (h : WM (B.vl a1.toNatClampNeg) (B.tlOf a2) x o (mkW (B.wx a1 a2 y).v (B.vl a1.toNatClampNeg).m (B.tlOf a2) z) I L) : WM (B.vl a1.toNatClampNeg) (B.tlOf a2) x o (B.wx a1 a2 z) I L := h
