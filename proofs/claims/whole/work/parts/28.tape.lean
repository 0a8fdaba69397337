/-! THE TAPE: memory rows; feed, end -/
theorem sI_at (I : MI) (k j : Nat) (v : Int32) : sI I k j v k j = v := by simp [sI]
theorem sI_c {I : MI} {k j a : Nat} {v : Int32} (h : a ≠ k) : sI I k j v a = I a := by
  funext b
  simp [sI, h]
theorem sI_j {I : MI} {k j b : Nat} {v : Int32} (h : b ≠ j) : sI I k j v k b = I k b := by simp [sI, h]
theorem aI_at (I : MI) (k : Nat) (f : Nat → Int32) : aI I k f k = f := by simp [aI]
theorem aI_c {I : MI} {k a : Nat} {f : Nat → Int32} (h : a ≠ k) : aI I k f a = I a := by simp [aI, h]
theorem sL_at (I : ML) (k j : Nat) (v : Int64) : sL I k j v k j = v := by simp [sL]
theorem sL_c {I : ML} {k j a : Nat} {v : Int64} (h : a ≠ k) : sL I k j v a = I a := by
  funext b
  simp [sL, h]
theorem sL_j {I : ML} {k j b : Nat} {v : Int64} (h : b ≠ j) : sL I k j v k b = I k b := by simp [sL, h]
theorem n_inT {a n : Nat} (h : a < n) (hn : a < 2147483648) : vp_in (nI a) n = True := by rw [n_in hn]; exact eq_true h
theorem n_gLt {x : Int32} {a : Nat} (h : x < nI 0) (ha : a < 2147483648) : (x < nI a) = True := eq_true (n_nat h a ha).1
theorem n_gEq {x : Int32} {a : Nat} (h : x < nI 0) (ha : a < 2147483648) : (x = nI a) = False := eq_false (n_nat h a ha).2.1
theorem n_gEq2 {x : Int32} {a : Nat} (h : x < nI 0) (ha : a < 2147483648) : (nI a = x) = False := eq_false (fun q => (n_nat h a ha).2.1 q.symm)
theorem n_gLe2 {x : Int32} {a : Nat} (h : x < nI 0) (ha : a < 2147483648) : (nI a ≤ x) = False := eq_false (n_nat h a ha).2.2.1
theorem n_gLt2 {x : Int32} {a : Nat} (h : x < nI 0) (ha : a < 2147483648) : (nI a < x) = False := eq_false (n_nat h a ha).2.2.2
theorem n_gLe {x : Int32} {a : Nat} (h : x < nI 0) (ha : a < 2147483648) : (x ≤ nI a) = True := eq_true (Int32.le_of_lt (n_nat h a ha).1)
/-- any number: below 0, or one of the natural ones -/
theorem n_sgn (x : Int32) : x < nI 0 ∨ ∃ j : Nat, j < 2147483648 ∧ x = nI j := by
  by_cases h : x < nI 0
  · exact Or.inl h
  · exact Or.inr (n_of h)
theorem n_neg2 {x : Int32} {a : Nat} (h : x < nI 0) (ha : a ≤ 1000) : x - nI a < nI 0 ∨ ∃ j : Nat, 2147480000 ≤ j ∧ j < 2147483648 ∧ x - nI a = nI j := by
  rcases n_sgn (x - nI a) with q | ⟨j, q1, q2⟩
  · exact Or.inl q
  · refine Or.inr ⟨j, ?_, q1, q2⟩
    have e : x = nI (j + a) := by
      rw [← n_add, ← q2]
      exact (Int32.sub_add_cancel x (nI a)).symm
    rcases Nat.lt_or_ge j 2147480000 with g | g
    · exfalso
      rw [e] at h
      exact nI_pos (by omega) h
    · exact g
theorem n_low {a b : Nat} (h : a < b) (hb : b ≤ 1000) : nI a - nI b < nI 0 := by
  rw [Int32.lt_iff_toInt_lt, pk_sub_toInt (by omega) (by omega)]
  show (a : Int) - b < 0
  omega
theorem n_subm (b : Nat) : nI b - nI (b + 1) = nM := by
  rw [← n_add, ← Int32.sub_sub, Int32.sub_self]
  rfl
theorem n_subm0 : nI 0 - nI 1 = nM := rfl
theorem c_isOf_y {s j n : Nat} {b : Bool} {I : MI} {L : ML} {K : Int32 → Bool → MI → ML → Prop} (hs : s ≤ 1) (h : I 187 s = nI n) (hn : n ≤ 3) (hj : j < n) (hK : K (nI 1) b I L) : CI m_M_isOf [vr 22 186, vi (nI s), vi (nI j)] b I L K := by
  have e : nI n - 1 = nI (n - 1) := n_sub (b := 1) (by omega)
  have e2 : (nI s).toNatClampNeg = s := n_cl (by omega)
  refine v_M_isOf_0 ⟨?_, v_M_isIn_0 ⟨fun q => ?_, fun _ => ⟨fun q => ?_, fun _ => ⟨Or.inr rfl, Or.inr rfl, hK⟩⟩⟩⟩
  · rw [n_in (by omega)]; omega
  · exact absurd q (nI_pos (by omega))
  · rw [e2, h, e, n_lt (by omega) (by omega)] at q
    omega
theorem c_isOf_n {s n : Nat} {a : Int32} {b : Bool} {I : MI} {L : ML} {K : Int32 → Bool → MI → ML → Prop} (hs : s ≤ 1) (h : I 187 s = nI n) (hn : n ≤ 3) (hj : a < nI 0 ∨ ∃ j, n ≤ j ∧ j < 2147483648 ∧ a = nI j) (hK : K (nI 0) b I L) : CI m_M_isOf [vr 22 186, vi (nI s), vi a] b I L K := by
  have e2 : (nI s).toNatClampNeg = s := n_cl (by omega)
  refine v_M_isOf_0 ⟨?_, v_M_isIn_0 ⟨fun q => ⟨Or.inl rfl, Or.inl rfl, hK⟩, fun q => ⟨fun q => ⟨Or.inl rfl, Or.inl rfl, hK⟩, fun q2 => ?_⟩⟩⟩
  · rw [n_in (by omega)]; omega
  · rcases hj with hj | ⟨j, h1, h2, rfl⟩
    · exact absurd hj q
    · exfalso
      apply q2
      rw [e2, h]
      show nI n - nI 1 < nI j
      by_cases e : n = 0
      · subst e
        rw [n_subm0, n_mlt h2]
        trivial
      · rw [n_sub (by omega), n_lt (by omega) h2]
        omega
theorem nT {a b : Nat} (h : a < b) : (a < b) = True := eq_true h
theorem nF {a b : Nat} (h : b ≤ a) : (a < b) = False := eq_false (Nat.not_lt.mpr h)
theorem lT {a b : Nat} (h : a ≤ b) : (a ≤ b) = True := eq_true h
theorem lF {a b : Nat} (h : b < a) : (a ≤ b) = False := eq_false (Nat.not_le.mpr h)
theorem eT {a b : Nat} (h : a = b) : (a = b) = True := eq_true h
theorem eF {a b : Nat} (h : a ≠ b) : (a = b) = False := eq_false h
/-- a byte of a number -/
def byN (x : Int32) : Nat := (x &&& nI 255).toNatClampNeg
theorem byN_lt (x : Int32) : byN x < 256 := by
  obtain ⟨j, h1, h2⟩ := pk_andE x (m := nI 255) 8 rfl
  unfold byN
  rw [h2, n_cl (by omega)]
  exact h1
theorem byN_eq (x : Int32) : x &&& nI 255 = nI (byN x) := by
  obtain ⟨j, h1, h2⟩ := pk_andE x (m := nI 255) 8 rfl
  unfold byN
  rw [h2, n_cl (by omega)]
theorem put_s {k n : Nat} {w : Int32} {b : Bool} {I : MI} {L : ML} {K : Bool → MI → ML → Prop} (hk : k < 4) (h : I 4 1 = nI n) (hn : n < 600) (hK : SW m_Tape_put 3 [vr 17 4, vi w, vi (nI (24 - 8 * k) + (-8 : Int32))] [] b (sI (sI I 5 n (nI (byN (w >>> (nI (24 - 8 * k) &&& nI 31))))) 4 1 (nI (n + 1))) L (kV K)) : SW m_Tape_put 3 [vr 17 4, vi w, vi (nI (24 - 8 * k))] [] b I L (kV K) := by
  refine v_Tape_put_3 ⟨fun q => absurd q (nI_pos (by omega)), fun _ => ⟨fun q => ?_, fun _ => ?_⟩⟩
  · exfalso
    rw [h] at q
    simp (disch := first | omega | assumption) only [n_lit, n_gLt, n_gLe, n_gEq, n_gEq2, n_gLe2, n_gLt2, n_m1, n_add, n_mul, n_lt, n_le, n_eq, n_cl, n_in, n_rem, n_mlt, n_mle, n_ltm, n_lem, n_eqm, n_meq, n_bit, n_shl, n_b0, n_b1, n_sub] at q
    omega
  · rw [h]
    refine ⟨?_, ?_⟩
    · simp (disch := first | omega | assumption) only [n_lit, n_gLt, n_gLe, n_gEq, n_gEq2, n_gLe2, n_gLt2, n_m1, n_add, n_mul, n_lt, n_le, n_eq, n_cl, n_in, n_rem, n_mlt, n_mle, n_ltm, n_lem, n_eqm, n_meq, n_bit, n_shl, n_b0, n_b1, n_sub]
      omega
    · have e : (nI n).toNatClampNeg = n := n_cl (by omega)
      rw [e, sI_c (by decide), h]
      have e2 : (w >>> (nI (24 - 8 * k) &&& 31)) &&& (255 : Int32) = nI (byN (w >>> (nI (24 - 8 * k) &&& nI 31))) := byN_eq _
      rw [e2, nI_1]
      exact hK
theorem c_put {n : Nat} {w : Int32} {b : Bool} {I : MI} {L : ML} {K : Bool → MI → ML → Prop} (h : I 4 1 = nI n) (hn : n + 4 ≤ 600) (hK : ∀ I', (∀ a, a ≠ 4 → a ≠ 5 → I' a = I a) → (∀ j, j ≠ 1 → I' 4 j = I 4 j) → I' 4 1 = nI (n + 4) → (∀ j, I' 5 j = if n ≤ j ∧ j < n + 4 then nI (byN (w >>> (nI (24 - 8 * (j - n)) &&& nI 31))) else I 5 j) → K b I' L) : CV m_Tape_put [vr 17 4, vi w] b I L K := by
  refine v_Tape_put_0 ?_
  refine put_s (k := 0) (by decide) h (by omega) ?_
  refine put_s (k := 1) (by decide) (sI_at _ _ _ _) (by omega) ?_
  refine put_s (k := 2) (by decide) (sI_at _ _ _ _) (by omega) ?_
  refine put_s (k := 3) (by decide) (sI_at _ _ _ _) (by omega) ?_
  refine v_Tape_put_3 ⟨fun _ => hK _ (fun a h1 h2 => ?_) (fun j hj => ?_) (sI_at _ _ _ _) (fun j => ?_), fun q => absurd (by decide) q⟩
  · rw [sI_c h1, sI_c h2, sI_c h1, sI_c h2, sI_c h1, sI_c h2, sI_c h1, sI_c h2]
  · rw [sI_j hj, sI_c (by decide), sI_j hj, sI_c (by decide), sI_j hj, sI_c (by decide), sI_j hj, sI_c (by decide)]
  · rw [sI_c (by decide)]
    by_cases e3 : j = n + 1 + 1 + 1
    · subst e3
      rw [sI_at, if_pos (by omega), show n + 1 + 1 + 1 - n = 3 by omega]
    · rw [sI_j e3, sI_c (by decide)]
      by_cases e2 : j = n + 1 + 1
      · subst e2
        rw [sI_at, if_pos (by omega), show n + 1 + 1 - n = 2 by omega]
      · rw [sI_j e2, sI_c (by decide)]
        by_cases e1 : j = n + 1
        · subst e1
          rw [sI_at, if_pos (by omega), show n + 1 - n = 1 by omega]
        · rw [sI_j e1, sI_c (by decide)]
          by_cases e0 : j = n
          · subst e0
            rw [sI_at, if_pos (by omega), show j - j = 0 by omega]
          · rw [sI_j e0, if_neg (by omega)]
/-- a tape that is fed -/
def fdW (a1 a2 a3 a4 a5 : Int32) (i : Nat) : Int32 := if i < 4 then a1 else if i < 8 then a2 else if i < 12 then a3 else if i < 16 then a4 else a5
def fdB (a1 a2 a3 a4 a5 : Int32) (i : Nat) : Nat := byN (fdW a1 a2 a3 a4 a5 i >>> (nI (24 - 8 * (i % 4)) &&& nI 31))
theorem s_feed {a1 a2 a3 a4 a5 : Int32} {n : Nat} {b : Bool} {I : MI} {L : ML} {K : Int32 → Bool → MI → ML → Prop} (h : I 4 1 = nI n) (hn : n ≤ 600) (hK : ∀ I', (∀ a, a ≠ 4 → a ≠ 5 → I' a = I a) → (∀ j, j ≠ 1 → I' 4 j = I 4 j) → I' 4 1 = nI (if n + 20 ≤ 600 then n + 20 else n) → (∀ j, j < n → I' 5 j = I 5 j) → (n + 20 ≤ 600 → ∀ j, n ≤ j → j < n + 20 → I' 5 j = nI (fdB a1 a2 a3 a4 a5 (j - n))) → K (if n + 20 ≤ 600 then nI (n + 20) else nM) b I' L) : CI m_S_feed [vr 21 0, vi a1, vi a2, vi a3, vi a4, vi a5] b I L K := by
  refine v_S_feed_0 (v_Tape_hasRoom_0 ⟨fun q => ⟨Or.inl rfl, fun c => absurd rfl c, fun _ => ?_⟩, fun q => ⟨Or.inr rfl, fun _ => ?_, fun c => absurd (by decide) c⟩⟩)
  · rw [h] at q
    simp (disch := first | omega | assumption) only [n_lit, n_gLt, n_gLe, n_gEq, n_gEq2, n_gLe2, n_gLt2, n_m1, n_add, n_mul, n_lt, n_le, n_eq, n_cl, n_in, n_rem, n_mlt, n_mle, n_ltm, n_lem, n_eqm, n_meq, n_bit, n_shl, n_b0, n_b1, n_sub] at q
    have := hK I (fun _ _ _ => rfl) (fun _ _ => rfl) (by rw [if_neg (by omega)]; exact h) (fun _ _ => rfl) (fun z => by omega)
    rw [if_neg (by omega)] at this
    exact this
  · rw [h] at q
    simp (disch := first | omega | assumption) only [n_lit, n_gLt, n_gLe, n_gEq, n_gEq2, n_gLe2, n_gLt2, n_m1, n_add, n_mul, n_lt, n_le, n_eq, n_cl, n_in, n_rem, n_mlt, n_mle, n_ltm, n_lem, n_eqm, n_meq, n_bit, n_shl, n_b0, n_b1, n_sub] at q
    refine c_put h (by omega) (fun I1 f1 g1 h1 p1 => ?_)
    refine c_put h1 (by omega) (fun I2 f2 g2 h2 p2 => ?_)
    refine c_put h2 (by omega) (fun I3 f3 g3 h3 p3 => ?_)
    refine c_put h3 (by omega) (fun I4 f4 g4 h4 p4 => ?_)
    refine c_put h4 (by omega) (fun I5 f5 g5 h5 p5 => ?_)
    rw [h5]
    have := hK I5 (fun a ha1 ha2 => by rw [f5 a ha1 ha2, f4 a ha1 ha2, f3 a ha1 ha2, f2 a ha1 ha2, f1 a ha1 ha2]) (fun j hj => by rw [g5 j hj, g4 j hj, g3 j hj, g2 j hj, g1 j hj]) (by rw [h5, if_pos (by omega)]) (fun j hj => by rw [p5, if_neg (by omega), p4, if_neg (by omega), p3, if_neg (by omega), p2, if_neg (by omega), p1, if_neg (by omega)]) (fun _ j j1 j2 => by
      unfold fdB fdW
      rw [p5]
      by_cases c5 : n + 16 ≤ j
      · rw [if_pos (by omega), if_neg (by omega), if_neg (by omega), if_neg (by omega), if_neg (by omega), show j - (n + 4 + 4 + 4 + 4) = (j - n) % 4 by omega]
      · rw [if_neg (by omega), p4]
        by_cases c4 : n + 12 ≤ j
        · rw [if_pos (by omega), if_neg (by omega), if_neg (by omega), if_neg (by omega), if_pos (by omega), show j - (n + 4 + 4 + 4) = (j - n) % 4 by omega]
        · rw [if_neg (by omega), p3]
          by_cases c3 : n + 8 ≤ j
          · rw [if_pos (by omega), if_neg (by omega), if_neg (by omega), if_pos (by omega), show j - (n + 4 + 4) = (j - n) % 4 by omega]
          · rw [if_neg (by omega), p2]
            by_cases c2 : n + 4 ≤ j
            · rw [if_pos (by omega), if_neg (by omega), if_pos (by omega), show j - (n + 4) = (j - n) % 4 by omega]
            · rw [if_neg (by omega), p1, if_pos (by omega), if_pos (by omega), Nat.mod_eq_of_lt (by omega : j - n < 4)])
    rw [if_pos (by omega)] at this
    exact this
theorem m_feed_l {a1 a2 a3 a4 a5 : Int32} {n : Nat} (hn : n + 20 ≤ 600) (I0 : MI) {K : Int32 → Bool → MI → ML → Prop} {b : Bool} {L : ML} (hK : ∀ I', (∀ a, a ≠ 187 → I' a = I0 a) → I' 187 2 = nI (n + 20) → (∀ j, j ≠ 2 → ¬ (10 + n ≤ j ∧ j < 10 + n + 20) → I' 187 j = I0 187 j) → (∀ j, j < 20 → I' 187 (10 + n + j) = nI (fdB a1 a2 a3 a4 a5 j)) → K (nI (n + 20)) b I' L) : ∀ k i, i + k = 20 → ∀ I, I 187 2 = nI (n + i) → (∀ a, a ≠ 187 → I a = I0 a) → (∀ j, j ≠ 2 → ¬ (10 + n ≤ j ∧ j < 10 + n + i) → I 187 j = I0 187 j) → (∀ j, j < i → I 187 (10 + n + j) = nI (fdB a1 a2 a3 a4 a5 j)) → SW m_M_feed 20 [vr 22 186, vi a1, vi a2, vi a3, vi a4, vi a5, vi (nI i), un] [] b I L (kI K) := by
  intro k
  induction k with
  | zero =>
    intro i hi I h2 hf ho hb
    obtain rfl : i = 20 := by omega
    refine v_M_feed_20 ⟨fun _ => ?_, fun q => absurd (by decide) q⟩
    simp (disch := first | omega | assumption) only [n_lit, n_gLt, n_gLe, n_gEq, n_gEq2, n_gLe2, n_gLt2, n_m1, n_add, n_mul, n_lt, n_le, n_eq, n_cl, n_in, n_rem, n_mlt, n_mle, n_ltm, n_lem, n_eqm, n_meq, n_bit, n_shl, n_b0, n_b1, n_sub, n_inT, nT, nF, lT, lF, eT, eF, not_false_eq_true, not_true_eq_false, sI_at, sI_c, sI_j, aI_at, aI_c, sL_at, sL_c, sL_j, true_and, and_true, not_true_eq_false, not_false_eq_true, forall_const, true_implies, false_implies, implies_true, if_true, if_false, ite_true, ite_false, Bool.not_eq_true, Bool.not_eq_false, Bool.true_eq_false, Bool.false_eq_true, false_and, and_false, or_true, true_or, false_or, or_false, h2]
    exact hK I hf h2 ho hb
  | succ k ih =>
    intro i hi I h2 hf ho hb
    have leaf : ∀ w, w = fdW a1 a2 a3 a4 a5 i → SW m_M_feed 20 [vr 22 186, vi a1, vi a2, vi a3, vi a4, vi a5, vi (nI (i + 1)), un] [] b (sI (sI I 187 (10 + (n + i)) (nI (byN (w >>> (nI (24 - 8 * (i % 4)) &&& nI 31))))) 187 2 (nI (n + i + 1))) L (kI K) := by
      intro w hw
      refine ih (i + 1) (by omega) _ (sI_at _ _ _ _) (fun a ha => ?_) (fun j j1 j2 => ?_) (fun j hj => ?_)
      · rw [sI_c ha, sI_c ha, hf a ha]
      · rw [sI_j j1, sI_j (by omega), ho j j1 (by omega)]
      · rw [sI_j (by omega)]
        by_cases e : j = i
        · subst e
          rw [show 10 + n + j = 10 + (n + j) by omega, sI_at, hw]
          rfl
        · rw [sI_j (by omega), hb j (by omega)]
    refine v_M_feed_20 ⟨fun q => ?_, fun _ => ⟨fun q1 => ⟨fun q2 => ⟨fun q3 => ⟨fun q4 => ?_, fun q4 => ?_⟩, fun q3 => ?_⟩, fun q2 => ?_⟩, fun q1 => ?_⟩⟩
    · exfalso
      simp (disch := first | omega | assumption) only [n_lit, n_gLt, n_gLe, n_gEq, n_gEq2, n_gLe2, n_gLt2, n_m1, n_add, n_mul, n_lt, n_le, n_eq, n_cl, n_in, n_rem, n_mlt, n_mle, n_ltm, n_lem, n_eqm, n_meq, n_bit, n_shl, n_b0, n_b1, n_sub] at q
      omega
    · simp (disch := first | omega | assumption) only [n_lit, n_gLt, n_gLe, n_gEq, n_gEq2, n_gLe2, n_gLt2, n_m1, n_add, n_mul, n_lt, n_le, n_eq, n_cl, n_in, n_rem, n_mlt, n_mle, n_ltm, n_lem, n_eqm, n_meq, n_bit, n_shl, n_b0, n_b1, n_sub] at q4
      simp (disch := first | omega | assumption) only [n_lit, n_gLt, n_gLe, n_gEq, n_gEq2, n_gLe2, n_gLt2, n_m1, n_add, n_mul, n_lt, n_le, n_eq, n_cl, n_in, n_rem, n_mlt, n_mle, n_ltm, n_lem, n_eqm, n_meq, n_bit, n_shl, n_b0, n_b1, n_sub, n_inT, nT, nF, lT, lF, eT, eF, not_false_eq_true, not_true_eq_false, sI_at, sI_c, sI_j, aI_at, aI_c, sL_at, sL_c, sL_j, true_and, and_true, not_true_eq_false, not_false_eq_true, forall_const, true_implies, false_implies, implies_true, if_true, if_false, ite_true, ite_false, Bool.not_eq_true, Bool.not_eq_false, Bool.true_eq_false, Bool.false_eq_true, false_and, and_false, or_true, true_or, false_or, or_false, h2, byN_eq]
      exact leaf a5 (by unfold fdW; rw [if_neg (by omega), if_neg (by omega), if_neg (by omega), if_neg (by omega)])
    · simp (disch := first | omega | assumption) only [n_lit, n_gLt, n_gLe, n_gEq, n_gEq2, n_gLe2, n_gLt2, n_m1, n_add, n_mul, n_lt, n_le, n_eq, n_cl, n_in, n_rem, n_mlt, n_mle, n_ltm, n_lem, n_eqm, n_meq, n_bit, n_shl, n_b0, n_b1, n_sub] at q3 q4
      simp (disch := first | omega | assumption) only [n_lit, n_gLt, n_gLe, n_gEq, n_gEq2, n_gLe2, n_gLt2, n_m1, n_add, n_mul, n_lt, n_le, n_eq, n_cl, n_in, n_rem, n_mlt, n_mle, n_ltm, n_lem, n_eqm, n_meq, n_bit, n_shl, n_b0, n_b1, n_sub, n_inT, nT, nF, lT, lF, eT, eF, not_false_eq_true, not_true_eq_false, sI_at, sI_c, sI_j, aI_at, aI_c, sL_at, sL_c, sL_j, true_and, and_true, not_true_eq_false, not_false_eq_true, forall_const, true_implies, false_implies, implies_true, if_true, if_false, ite_true, ite_false, Bool.not_eq_true, Bool.not_eq_false, Bool.true_eq_false, Bool.false_eq_true, false_and, and_false, or_true, true_or, false_or, or_false, h2, byN_eq]
      exact leaf a4 (by unfold fdW; rw [if_neg (by omega), if_neg (by omega), if_neg (by omega), if_pos (by omega)])
    · simp (disch := first | omega | assumption) only [n_lit, n_gLt, n_gLe, n_gEq, n_gEq2, n_gLe2, n_gLt2, n_m1, n_add, n_mul, n_lt, n_le, n_eq, n_cl, n_in, n_rem, n_mlt, n_mle, n_ltm, n_lem, n_eqm, n_meq, n_bit, n_shl, n_b0, n_b1, n_sub] at q2 q3
      simp (disch := first | omega | assumption) only [n_lit, n_gLt, n_gLe, n_gEq, n_gEq2, n_gLe2, n_gLt2, n_m1, n_add, n_mul, n_lt, n_le, n_eq, n_cl, n_in, n_rem, n_mlt, n_mle, n_ltm, n_lem, n_eqm, n_meq, n_bit, n_shl, n_b0, n_b1, n_sub, n_inT, nT, nF, lT, lF, eT, eF, not_false_eq_true, not_true_eq_false, sI_at, sI_c, sI_j, aI_at, aI_c, sL_at, sL_c, sL_j, true_and, and_true, not_true_eq_false, not_false_eq_true, forall_const, true_implies, false_implies, implies_true, if_true, if_false, ite_true, ite_false, Bool.not_eq_true, Bool.not_eq_false, Bool.true_eq_false, Bool.false_eq_true, false_and, and_false, or_true, true_or, false_or, or_false, h2, byN_eq]
      exact leaf a3 (by unfold fdW; rw [if_neg (by omega), if_neg (by omega), if_pos (by omega)])
    · simp (disch := first | omega | assumption) only [n_lit, n_gLt, n_gLe, n_gEq, n_gEq2, n_gLe2, n_gLt2, n_m1, n_add, n_mul, n_lt, n_le, n_eq, n_cl, n_in, n_rem, n_mlt, n_mle, n_ltm, n_lem, n_eqm, n_meq, n_bit, n_shl, n_b0, n_b1, n_sub] at q1 q2
      simp (disch := first | omega | assumption) only [n_lit, n_gLt, n_gLe, n_gEq, n_gEq2, n_gLe2, n_gLt2, n_m1, n_add, n_mul, n_lt, n_le, n_eq, n_cl, n_in, n_rem, n_mlt, n_mle, n_ltm, n_lem, n_eqm, n_meq, n_bit, n_shl, n_b0, n_b1, n_sub, n_inT, nT, nF, lT, lF, eT, eF, not_false_eq_true, not_true_eq_false, sI_at, sI_c, sI_j, aI_at, aI_c, sL_at, sL_c, sL_j, true_and, and_true, not_true_eq_false, not_false_eq_true, forall_const, true_implies, false_implies, implies_true, if_true, if_false, ite_true, ite_false, Bool.not_eq_true, Bool.not_eq_false, Bool.true_eq_false, Bool.false_eq_true, false_and, and_false, or_true, true_or, false_or, or_false, h2, byN_eq]
      exact leaf a2 (by unfold fdW; rw [if_neg (by omega), if_pos (by omega)])
    · simp (disch := first | omega | assumption) only [n_lit, n_gLt, n_gLe, n_gEq, n_gEq2, n_gLe2, n_gLt2, n_m1, n_add, n_mul, n_lt, n_le, n_eq, n_cl, n_in, n_rem, n_mlt, n_mle, n_ltm, n_lem, n_eqm, n_meq, n_bit, n_shl, n_b0, n_b1, n_sub] at q1
      simp (disch := first | omega | assumption) only [n_lit, n_gLt, n_gLe, n_gEq, n_gEq2, n_gLe2, n_gLt2, n_m1, n_add, n_mul, n_lt, n_le, n_eq, n_cl, n_in, n_rem, n_mlt, n_mle, n_ltm, n_lem, n_eqm, n_meq, n_bit, n_shl, n_b0, n_b1, n_sub, n_inT, nT, nF, lT, lF, eT, eF, not_false_eq_true, not_true_eq_false, sI_at, sI_c, sI_j, aI_at, aI_c, sL_at, sL_c, sL_j, true_and, and_true, not_true_eq_false, not_false_eq_true, forall_const, true_implies, false_implies, implies_true, if_true, if_false, ite_true, ite_false, Bool.not_eq_true, Bool.not_eq_false, Bool.true_eq_false, Bool.false_eq_true, false_and, and_false, or_true, true_or, false_or, or_false, h2, byN_eq]
      exact leaf a1 (by unfold fdW; rw [if_pos (by omega)])
theorem op_feed : H_feed := by
  intro a1 a2 a3 a4 a5 I hR
  obtain ⟨B, hB⟩ := hR
  obtain ⟨ok, hc, hm, hi⟩ := id hB
  refine ⟨fun v I' => v = (if B.ln + 20 ≤ 600 then nI (B.ln + 20) else nM) ∧ (∀ a, a ≠ 4 → a ≠ 5 → I' a = I a) ∧ (∀ j, j ≠ 1 → I' 4 j = I 4 j) ∧ I' 4 1 = nI (if B.ln + 20 ≤ 600 then B.ln + 20 else B.ln) ∧ (∀ j, j < B.ln → I' 5 j = I 5 j) ∧ (B.ln + 20 ≤ 600 → ∀ j, B.ln ≤ j → j < B.ln + 20 → I' 5 j = nI (fdB a1 a2 a3 a4 a5 (j - B.ln))), fun b L K k => s_feed hc.1.2.2.2.2 ok.1.2.2.1 (fun I' h1 h2 h3 h4 h5 => k _ _ _ _ ⟨rfl, h1, h2, h3, h4, h5⟩ (fun a ha => h1 a (by omega) (by omega))), ?_⟩
  rintro v I1 ⟨rfl, h1, h2, h3, h4, h5⟩ b L K k
  have e7 : I1 187 = I 187 := h1 187 (by decide) (by decide)
  have hl := ok.1.2.2.1
  have hl2 : I1 187 2 = nI B.ln := by rw [e7]; exact hm.1.2.2.1
  by_cases q : B.ln + 20 ≤ 600
  · rw [if_pos q] at h3
    simp only [if_pos q] at k
    refine v_M_feed_0 ?_
    simp (disch := first | omega | assumption) only [n_lit, n_gLt, n_gLe, n_gEq, n_gEq2, n_gLe2, n_gLt2, n_m1, n_add, n_mul, n_lt, n_le, n_eq, n_cl, n_in, n_rem, n_mlt, n_mle, n_ltm, n_lem, n_eqm, n_meq, n_bit, n_shl, n_b0, n_b1, n_sub, n_inT, nT, nF, lT, lF, eT, eF, not_false_eq_true, not_true_eq_false, sI_at, sI_c, sI_j, aI_at, aI_c, sL_at, sL_c, sL_j, true_and, and_true, not_true_eq_false, not_false_eq_true, forall_const, true_implies, false_implies, implies_true, if_true, if_false, ite_true, ite_false, Bool.not_eq_true, Bool.not_eq_false, Bool.true_eq_false, Bool.false_eq_true, false_and, and_false, or_true, true_or, false_or, or_false, hl2]
    refine m_feed_l q I1 (fun I' g1 g2 g3 g4 => k _ _ _ ⟨mkB B.nv B.nt (B.ln + 20) B.fl B.fa (fun j => if j < B.ln then B.yt j else fdB a1 a2 a3 a4 a5 (j - B.ln)) B.vl B.tl, ⟨⟨ok.1.1, ok.1.2.1, q, ok.1.2.2.2⟩, fun j hj => ?_, ok.2.2.1, ok.2.2.2⟩, ?_, ?_, ?_⟩ (fun a ha => g1 a (by omega))) 20 0 (by omega) I1 hl2 (fun _ _ => rfl) (fun _ _ _ => rfl) (fun j hj => by omega)
    · show (if j < B.ln then B.yt j else _) < 256
      split
      · rename_i h; exact ok.2.1 j h
      · exact byN_lt _
    · have hh : ∀ a, a ≠ 4 → a ≠ 5 → a ≠ 187 → I' a = I a := fun a h4 h5 h7 => (g1 a h7).trans (h1 a h4 h5)
      refine ⟨⟨?_, ?_, ?_, ?_, ?_⟩, fun j hj => ?_, fun j hj => ?_, fun j hj => ?_⟩
      · rw [hh 1 (by decide) (by decide) (by decide)]; exact hc.1.1
      · rw [hh 1 (by decide) (by decide) (by decide)]; exact hc.1.2.1
      · rw [hh 1 (by decide) (by decide) (by decide)]; exact hc.1.2.2.1
      · rw [hh 1 (by decide) (by decide) (by decide)]; exact hc.1.2.2.2.1
      · exact (congrFun (g1 4 (by decide)) 1).trans h3
      · have hj : j < B.ln + 20 := hj
        show I' 5 j = nI (if j < B.ln then B.yt j else _)
        rw [g1 5 (by decide)]
        split
        · rename_i h
          rw [h4 j h]
          exact hc.2.1 j h
        · exact h5 q j (by omega) hj
      · have hj : j < B.nv := hj
        have := ok.1.1
        exact vilC_fr (fun a c1 c2 => hh a (by omega) (by omega) (by omega)) (hc.2.2.1 j hj)
      · have hj : j < B.nt := hj
        have := ok.1.2.1
        exact telC_fr (fun a c1 c2 => hh a (by omega) (by omega) (by omega)) (hc.2.2.2 j hj)
    · have ho : ∀ j, j ≠ 2 → ¬ (10 ≤ j ∧ j < 610) → I' 187 j = I 187 j := fun j j1 j2 => by rw [g3 j j1 (by omega), e7]
      refine ⟨⟨?_, ?_, ?_, ?_, ?_⟩, fun j hj => ?_, fun j hj => ?_, fun j hj => ?_⟩
      · rw [ho _ (by decide) (by decide)]; exact hm.1.1
      · rw [ho _ (by decide) (by decide)]; exact hm.1.2.1
      · exact g2
      · rw [ho _ (by decide) (by decide)]; exact hm.1.2.2.2.1
      · rw [ho _ (by decide) (by decide)]; exact hm.1.2.2.2.2
      · have hj : j < B.ln + 20 := hj
        show I' 187 (0 + 10 + j) = nI (if j < B.ln then B.yt j else _)
        split
        · rename_i h
          rw [g3 _ (by omega) (by omega), e7]
          exact hm.2.1 j h
        · have := g4 (j - B.ln) (by omega)
          rw [show 10 + B.ln + (j - B.ln) = 0 + 10 + j by omega] at this
          exact this
      · have hj : j < B.nv := hj
        have hv := ok.1.1
        exact vilM_at (ok.2.2.1 j hj).2.1 (fun a c1 c2 => ho a (by omega) (by omega)) (hm.2.2.1 j hj)
      · have hj : j < B.nt := hj
        have hv := ok.1.2.1
        exact telM_at (ok.2.2.2 j hj).1 (fun a c1 c2 => ho a (by omega) (by omega)) (hm.2.2.2 j hj)
    · have hh : ∀ a, 36 ≤ a → a ≠ 187 → I' a = I a := fun a ha h7 => (g1 a h7).trans (h1 a (by omega) (by omega))
      exact RImg_at (fun a c1 c2 => hh a c1 (by omega)) (fun j hj => by rw [g3 j (by omega) (by omega), e7]) (hh 188 (by decide) (by decide)) hi
  · rw [if_neg q] at h3
    simp only [if_neg q] at k
    refine v_M_feed_0 ?_
    simp (disch := first | omega | assumption) only [n_lit, n_gLt, n_gLe, n_gEq, n_gEq2, n_gLe2, n_gLt2, n_m1, n_add, n_mul, n_lt, n_le, n_eq, n_cl, n_in, n_rem, n_mlt, n_mle, n_ltm, n_lem, n_eqm, n_meq, n_bit, n_shl, n_b0, n_b1, n_sub, n_inT, nT, nF, lT, lF, eT, eF, not_false_eq_true, not_true_eq_false, sI_at, sI_c, sI_j, aI_at, aI_c, sL_at, sL_c, sL_j, true_and, and_true, not_true_eq_false, not_false_eq_true, forall_const, true_implies, false_implies, implies_true, if_true, if_false, ite_true, ite_false, Bool.not_eq_true, Bool.not_eq_false, Bool.true_eq_false, Bool.false_eq_true, false_and, and_false, or_true, true_or, false_or, or_false, hl2, n_m1']
    refine k _ _ _ ⟨B, ok, ⟨?_, ?_, fun j hj => ?_, fun j hj => ?_⟩, bkM_fr e7 hm, RImg_fr (fun a c1 c2 => h1 a (by omega) (by omega)) e7 (h1 188 (by decide) (by decide)) hi⟩ (fun _ _ => rfl)
    · exact ⟨(congrFun (h1 1 (by decide) (by decide)) 3).trans hc.1.1, (congrFun (h1 1 (by decide) (by decide)) 4).trans hc.1.2.1, (congrFun (h1 1 (by decide) (by decide)) 5).trans hc.1.2.2.1, (congrFun (h1 1 (by decide) (by decide)) 6).trans hc.1.2.2.2.1, h3⟩
    · intro j hj
      rw [h4 j hj]
      exact hc.2.1 j hj
    · have := ok.1.1
      exact vilC_fr (fun a c1 c2 => h1 a (by omega) (by omega)) (hc.2.2.1 j hj)
    · have := ok.1.2.1
      exact telC_fr (fun a c1 c2 => h1 a (by omega) (by omega)) (hc.2.2.2 j hj)
