/-! TEXTS: the reference's telling line -/
def telSt (x_1 x_2 x_3 x_4 : Int32) (K : Bool → MI → ML → Prop) (b_3 : Bool) (I_3 : MI) (L_3 : ML) : Prop := (vp_in (0 : Int32) 200 ∧ (((30 : Int32) ≤ (I_3 189 (((0 : Int32)).toNatClampNeg)) → K b_3 I_3 L_3) ∧ (¬ (30 : Int32) ≤ (I_3 189 (((0 : Int32)).toNatClampNeg)) → (vp_in (0 : Int32) 200 ∧ (vp_in ((1 : Int32) + ((4 : Int32) * (I_3 189 (((0 : Int32)).toNatClampNeg)))) 200 ∧ (vp_in (((1 : Int32) + ((4 : Int32) * (I_3 189 (((0 : Int32)).toNatClampNeg)))) + (1 : Int32)) 200 ∧ (vp_in (((1 : Int32) + ((4 : Int32) * (I_3 189 (((0 : Int32)).toNatClampNeg)))) + (2 : Int32)) 200 ∧ (vp_in (((1 : Int32) + ((4 : Int32) * (I_3 189 (((0 : Int32)).toNatClampNeg)))) + (3 : Int32)) 200 ∧ (vp_in (0 : Int32) 200 ∧ (vp_in (0 : Int32) 200 ∧ K b_3 (sI (sI (sI (sI (sI I_3 189 (((1 : Int32) + ((4 : Int32) * (I_3 189 (((0 : Int32)).toNatClampNeg)))).toNatClampNeg) x_1) 189 ((((1 : Int32) + ((4 : Int32) * (I_3 189 (((0 : Int32)).toNatClampNeg)))) + (1 : Int32)).toNatClampNeg) x_2) 189 ((((1 : Int32) + ((4 : Int32) * (I_3 189 (((0 : Int32)).toNatClampNeg)))) + (2 : Int32)).toNatClampNeg) x_3) 189 ((((1 : Int32) + ((4 : Int32) * (I_3 189 (((0 : Int32)).toNatClampNeg)))) + (3 : Int32)).toNatClampNeg) x_4) 189 (((0 : Int32)).toNatClampNeg) (((sI (sI (sI (sI I_3 189 (((1 : Int32) + ((4 : Int32) * (I_3 189 (((0 : Int32)).toNatClampNeg)))).toNatClampNeg) x_1) 189 ((((1 : Int32) + ((4 : Int32) * (I_3 189 (((0 : Int32)).toNatClampNeg)))) + (1 : Int32)).toNatClampNeg) x_2) 189 ((((1 : Int32) + ((4 : Int32) * (I_3 189 (((0 : Int32)).toNatClampNeg)))) + (2 : Int32)).toNatClampNeg) x_3) 189 ((((1 : Int32) + ((4 : Int32) * (I_3 189 (((0 : Int32)).toNatClampNeg)))) + (3 : Int32)).toNatClampNeg) x_4) 189 (((0 : Int32)).toNatClampNeg)) + (1 : Int32))) L_3))))))))))
theorem telSt_ok {v1 v2 v3 v4 : Int32} {m : Nat} {K : Bool → MI → ML → Prop} {b : Bool} {I : MI} {L : ML} (hm : m ≤ 30) (e1 : I 189 0 = nI m) (h1 : 30 ≤ m → K b I L) (h2 : m < 30 → K b (sI (sI (sI (sI (sI I 189 (1 + 4 * m) v1) 189 (1 + 4 * m + 1) v2) 189 (1 + 4 * m + 2) v3) 189 (1 + 4 * m + 3) v4) 189 0 (nI (m + 1))) L) : telSt v1 v2 v3 v4 K b I L := by
  unfold telSt
  have v0 : vp_in (0 : Int32) 200 := vpN (k := 0) (by omega) (by omega)
  simp only [cl0]
  rw [e1, show (1 : Int32) + (4 : Int32) * nI m = nI (1 + 4 * m) from by rw [show (1 : Int32) = nI 1 from rfl, show (4 : Int32) = nI 4 from rfl, n_mul, n_add], show nI (1 + 4 * m) + (1 : Int32) = nI (1 + 4 * m + 1) from n_add _ 1, show nI (1 + 4 * m) + (2 : Int32) = nI (1 + 4 * m + 2) from n_add _ 2, show nI (1 + 4 * m) + (3 : Int32) = nI (1 + 4 * m + 3) from n_add _ 3, n_cl (by omega), n_cl (by omega), n_cl (by omega), n_cl (by omega), sI_j (by omega), sI_j (by omega), sI_j (by omega), sI_j (by omega), e1, show nI m + (1 : Int32) = nI (m + 1) from n_add m 1, show (30 : Int32) = nI 30 from rfl, n_le (by omega) (by omega)]
  refine ⟨v0, h1, fun z => ⟨v0, vpN (by omega) (by omega), vpN (by omega) (by omega), vpN (by omega) (by omega), vpN (by omega) (by omega), v0, v0, h2 (by omega)⟩⟩
theorem mwD0 {x : Nat} {nb : Nat → Nat} : mayW 13 0 x nb = true ↔ x < 40 := by
  show decide (x < 40) = true ↔ _
  exact decide_eq_true_iff
theorem mwD1 {x : Nat} {nb : Nat → Nat} : mayW 13 1 x nb = true ↔ True := ⟨fun _ => trivial, fun _ => rfl⟩
theorem mwD2 {x : Nat} {nb : Nat → Nat} : mayW 13 2 x nb = true ↔ nb 1 ≤ x := by
  show decide (nb 1 ≤ x) = true ↔ _
  exact decide_eq_true_iff
theorem mwB0 {i x : Nat} {nb : Nat → Nat} (h : i = 11 ∨ i = 12) : mayW i 0 x nb = true ↔ True := by
  rcases h with rfl | rfl
  · exact ⟨fun _ => trivial, fun _ => (decide_eq_true (Or.inl rfl) : decide (0 = 0 ∨ x < 16) = true)⟩
  · exact ⟨fun _ => trivial, fun _ => (decide_eq_true (Or.inl rfl) : decide (0 = 0 ∨ x < 16) = true)⟩
theorem mwB1 {i x : Nat} {nb : Nat → Nat} (h : i = 11 ∨ i = 12) : mayW i 1 x nb = true ↔ x ≤ 15 := by
  rcases h with rfl | rfl
  · show decide (1 = 0 ∨ x < 16) = true ↔ _
    rw [decide_eq_true_iff]
    omega
  · show decide (1 = 0 ∨ x < 16) = true ↔ _
    rw [decide_eq_true_iff]
    omega
theorem Qb1_r {I : MI} {j : Nat} {v : Int32} (h : j ≠ 0) (q : Qb 1 I) : Qb 1 (sI I 189 j v) := q.r h
