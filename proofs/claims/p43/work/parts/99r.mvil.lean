/-! TEXTS: the reference's village line -/
theorem mayW_K {i a x : Nat} {nb : Nat → Nat} (h : isKW i = true) : mayW i a x nb = true ↔ x ≤ 15 := by
  unfold mayW
  have h6 := of_decide_eq_true h
  rw [if_pos (isKW_P h), show decide ((i = 8 ∧ a = 1) ∧ x = nb 0) = false from decide_eq_false (by omega), Bool.not_false, Bool.and_true, decide_eq_true_iff]
  omega
theorem mw80 {x : Nat} {nb : Nat → Nat} : mayW 8 0 x nb = true ↔ x ≤ 15 := by
  show (decide (x < 16) && !decide ((8 = 8 ∧ 0 = 1) ∧ x = nb 0)) = true ↔ _
  rw [show decide ((8 = 8 ∧ 0 = 1) ∧ x = nb 0) = false from decide_eq_false (by omega), Bool.not_false, Bool.and_true, decide_eq_true_iff]
  omega
theorem mw70 {x : Nat} {nb : Nat → Nat} : mayW 7 0 x nb = true ↔ x ≤ 15 := by
  show (decide (x < 16) && !decide ((7 = 8 ∧ 0 = 1) ∧ x = nb 0)) = true ↔ _
  rw [show decide ((7 = 8 ∧ 0 = 1) ∧ x = nb 0) = false from decide_eq_false (by omega), Bool.not_false, Bool.and_true, decide_eq_true_iff]
  omega
theorem mw81 {x : Nat} {nb : Nat → Nat} : mayW 8 1 x nb = true ↔ x ≤ 15 ∧ x ≠ nb 0 := by
  show (decide (x < 16) && !decide ((8 = 8 ∧ 1 = 1) ∧ x = nb 0)) = true ↔ _
  rw [Bool.and_eq_true, decide_eq_true_iff, Bool.not_eq_true', decide_eq_false_iff_not]
  omega
theorem mw82 {x : Nat} {nb : Nat → Nat} : mayW 8 2 x nb = true ↔ 1 ≤ x ∧ x ≤ 3 := by
  show decide (1 ≤ x ∧ x ≤ 3) = true ↔ _
  exact decide_eq_true_iff
theorem mw83 {x : Nat} {nb : Nat → Nat} : mayW 8 3 x nb = true ↔ 1 ≤ x ∧ x ≤ 9 := by
  show decide (1 ≤ x ∧ x ≤ 9) = true ↔ _
  exact decide_eq_true_iff
theorem mw71 {x : Nat} {nb : Nat → Nat} : mayW 7 1 x nb = true ↔ 1 ≤ x := by
  show decide (1 ≤ x) = true ↔ _
  exact decide_eq_true_iff
theorem mw00 {x : Nat} {nb : Nat → Nat} : mayW 0 0 x nb = true ↔ 1 ≤ x ∧ x ≤ 16 := by
  show decide (1 ≤ x ∧ x ≤ 16) = true ↔ _
  exact decide_eq_true_iff
theorem mw90 {x : Nat} {nb : Nat → Nat} : mayW 9 0 x nb = true ↔ x ≤ 3 := by
  show decide (x ≤ 3) = true ↔ _
  exact decide_eq_true_iff
theorem mwT0 {x : Nat} {nb : Nat → Nat} : mayW 10 0 x nb = true ↔ x ≤ 30 := by
  show decide (x ≤ 30) = true ↔ _
  exact decide_eq_true_iff
theorem mwT1 {x : Nat} {nb : Nat → Nat} : mayW 10 1 x nb = true ↔ x ≤ 30 := by
  show decide (x ≤ 30) = true ↔ _
  exact decide_eq_true_iff
theorem Qb.r {sort : Nat} {I : MI} {j : Nat} {v : Int32} (h : j ≠ if sort = 0 then 1 else 0) (q : Qb sort I) : Qb sort (sI I 189 j v) := by
  obtain ⟨m, hm, em⟩ := q
  exact ⟨m, hm, by rw [sI_j (Ne.symm h)]; exact em⟩
theorem sty_fl {w : Nat} {S : Sm} : (sty w S).fl ≠ 0 := show (1 : Nat) ≠ 0 by decide
theorem nmR_w {i : Nat} {r : Nat × Nat × Sm} (h : r.2.1 < needW i) : nmR i r = sty r.1 r.2.2 := if_pos h
theorem nmR_e {i : Nat} {r : Nat × Nat × Sm} (h : needW i ≤ r.2.1) : nmR i r = r.2.2 := if_neg (by omega)
theorem needW_K {i : Nat} (h : isKW i = true) : needW i = 1 := by
  have h6 := of_decide_eq_true h
  unfold needW
  rw [if_neg (by omega), if_neg (by omega), if_neg (by omega), if_neg (by omega), if_neg (by omega)]
/-! a tie -/
def tieSt (v_1 v_2 v_3 v_4 : Int32) (K : Bool → MI → ML → Prop) (b_4 : Bool) (I_4 : MI) (L_4 : ML) : Prop := (vp_in (1 : Int32) 200 ∧ (((40 : Int32) ≤ (I_4 189 (((1 : Int32)).toNatClampNeg)) → K b_4 I_4 L_4) ∧ (¬ (40 : Int32) ≤ (I_4 189 (((1 : Int32)).toNatClampNeg)) → (vp_in (1 : Int32) 200 ∧ (vp_in ((37 : Int32) + ((4 : Int32) * (I_4 189 (((1 : Int32)).toNatClampNeg)))) 200 ∧ (vp_in (((37 : Int32) + ((4 : Int32) * (I_4 189 (((1 : Int32)).toNatClampNeg)))) + (1 : Int32)) 200 ∧ (vp_in (((37 : Int32) + ((4 : Int32) * (I_4 189 (((1 : Int32)).toNatClampNeg)))) + (2 : Int32)) 200 ∧ (vp_in (((37 : Int32) + ((4 : Int32) * (I_4 189 (((1 : Int32)).toNatClampNeg)))) + (3 : Int32)) 200 ∧ (vp_in (1 : Int32) 200 ∧ (vp_in (1 : Int32) 200 ∧ K b_4 (sI (sI (sI (sI (sI I_4 189 (((37 : Int32) + ((4 : Int32) * (I_4 189 (((1 : Int32)).toNatClampNeg)))).toNatClampNeg) v_1) 189 ((((37 : Int32) + ((4 : Int32) * (I_4 189 (((1 : Int32)).toNatClampNeg)))) + (1 : Int32)).toNatClampNeg) v_2) 189 ((((37 : Int32) + ((4 : Int32) * (I_4 189 (((1 : Int32)).toNatClampNeg)))) + (2 : Int32)).toNatClampNeg) v_3) 189 ((((37 : Int32) + ((4 : Int32) * (I_4 189 (((1 : Int32)).toNatClampNeg)))) + (3 : Int32)).toNatClampNeg) v_4) 189 (((1 : Int32)).toNatClampNeg) (((sI (sI (sI (sI I_4 189 (((37 : Int32) + ((4 : Int32) * (I_4 189 (((1 : Int32)).toNatClampNeg)))).toNatClampNeg) v_1) 189 ((((37 : Int32) + ((4 : Int32) * (I_4 189 (((1 : Int32)).toNatClampNeg)))) + (1 : Int32)).toNatClampNeg) v_2) 189 ((((37 : Int32) + ((4 : Int32) * (I_4 189 (((1 : Int32)).toNatClampNeg)))) + (2 : Int32)).toNatClampNeg) v_3) 189 ((((37 : Int32) + ((4 : Int32) * (I_4 189 (((1 : Int32)).toNatClampNeg)))) + (3 : Int32)).toNatClampNeg) v_4) 189 (((1 : Int32)).toNatClampNeg)) + (1 : Int32))) L_4))))))))))
theorem tieSt_ok {v1 v2 v3 v4 : Int32} {m : Nat} {K : Bool → MI → ML → Prop} {b : Bool} {I : MI} {L : ML} (hm : m ≤ 40) (e1 : I 189 1 = nI m) (h1 : 40 ≤ m → K b I L) (h2 : m < 40 → K b (sI (sI (sI (sI (sI I 189 (37 + 4 * m) v1) 189 (37 + 4 * m + 1) v2) 189 (37 + 4 * m + 2) v3) 189 (37 + 4 * m + 3) v4) 189 1 (nI (m + 1))) L) : tieSt v1 v2 v3 v4 K b I L := by
  unfold tieSt
  have v1 : vp_in (1 : Int32) 200 := vpN (k := 1) (by omega) (by omega)
  simp only [cl1]
  rw [e1, show (37 : Int32) + (4 : Int32) * nI m = nI (37 + 4 * m) from by rw [show (37 : Int32) = nI 37 from rfl, show (4 : Int32) = nI 4 from rfl, n_mul, n_add], show nI (37 + 4 * m) + (1 : Int32) = nI (37 + 4 * m + 1) from n_add _ 1, show nI (37 + 4 * m) + (2 : Int32) = nI (37 + 4 * m + 2) from n_add _ 2, show nI (37 + 4 * m) + (3 : Int32) = nI (37 + 4 * m + 3) from n_add _ 3, n_cl (by omega), n_cl (by omega), n_cl (by omega), n_cl (by omega), sI_j (by omega), sI_j (by omega), sI_j (by omega), sI_j (by omega), e1, show nI m + (1 : Int32) = nI (m + 1) from n_add m 1, show (40 : Int32) = nI 40 from rfl, n_le (by omega) (by omega)]
  refine ⟨v1, h1, fun z => ⟨v1, vpN (by omega) (by omega), vpN (by omega) (by omega), vpN (by omega) (by omega), vpN (by omega) (by omega), v1, v1, h2 (by omega)⟩⟩
theorem ful_no {i p : Nat} {S : Sm} (h : S.fl = 0 → fulB i S = false) : ful i p S = S := by
  unfold ful
  cases c : fulB i S with
  | false => exact if_neg Bool.false_ne_true
  | true =>
    rw [if_pos rfl]
    unfold blm
    refine if_neg (fun z => ?_)
    rw [h z] at c
    cases c
theorem ful_is {i p : Nat} {S : Sm} (h : S.fl = 0 → fulB i S = true) : ful i p S = blm 3 p S := by
  unfold ful
  cases c : fulB i S with
  | true => exact if_pos rfl
  | false =>
    rw [if_neg Bool.false_ne_true]
    unfold blm
    refine (if_neg (fun z => ?_)).symm
    rw [h z] at c
    cases c
