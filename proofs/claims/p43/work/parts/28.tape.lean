/-! THE TAPE: memory rows; feed, end -/
theorem sI_at (I : MI) (k j : Nat) (v : Int32) : sI I k j v k j = v := by simp [sI]
theorem sI_c {I : MI} {k j a : Nat} {v : Int32} (h : a ≠ k) : sI I k j v a = I a := by
  funext b
  simp [sI, h]
theorem sI_j {I : MI} {k j b : Nat} {v : Int32} (h : b ≠ j) : sI I k j v k b = I k b := by simp [sI, h]
theorem aI_at (I : MI) (k : Nat) (f : Nat → Int32) : aI I k f k = f := by simp [aI]
theorem aI_c {I : MI} {k a : Nat} {f : Nat → Int32} (h : a ≠ k) : aI I k f a = I a := by simp [aI, h]
theorem sL_at (I : ML) (k j : Nat) (v : Int64) : sL I k j v k j = v := by simp [sL]
theorem sL_c {I : ML} {k j a : Nat} {v : Int64} (h : a ≠ k) : sL I k j v a = I a := by
  funext b
  simp [sL, h]
theorem sL_j {I : ML} {k j b : Nat} {v : Int64} (h : b ≠ j) : sL I k j v k b = I k b := by simp [sL, h]
theorem n_inT {a n : Nat} (h : a < n) (hn : a < 2147483648) : vp_in (nI a) n = True := by rw [n_in hn]; exact eq_true h
theorem n_gLt {x : Int32} {a : Nat} (h : x < nI 0) (ha : a < 2147483648) : (x < nI a) = True := eq_true (n_nat h a ha).1
theorem n_gEq {x : Int32} {a : Nat} (h : x < nI 0) (ha : a < 2147483648) : (x = nI a) = False := eq_false (n_nat h a ha).2.1
theorem n_gEq2 {x : Int32} {a : Nat} (h : x < nI 0) (ha : a < 2147483648) : (nI a = x) = False := eq_false (fun q => (n_nat h a ha).2.1 q.symm)
theorem n_gLe2 {x : Int32} {a : Nat} (h : x < nI 0) (ha : a < 2147483648) : (nI a ≤ x) = False := eq_false (n_nat h a ha).2.2.1
theorem n_gLt2 {x : Int32} {a : Nat} (h : x < nI 0) (ha : a < 2147483648) : (nI a < x) = False := eq_false (n_nat h a ha).2.2.2
theorem n_gLe {x : Int32} {a : Nat} (h : x < nI 0) (ha : a < 2147483648) : (x ≤ nI a) = True := eq_true (Int32.le_of_lt (n_nat h a ha).1)
/-- any number: below 0, or one of the natural ones -/
theorem n_sgn (x : Int32) : x < nI 0 ∨ ∃ j : Nat, j < 2147483648 ∧ x = nI j := by
  by_cases h : x < nI 0
  · exact Or.inl h
  · exact Or.inr (n_of h)
theorem n_neg2 {x : Int32} {a : Nat} (h : x < nI 0) (ha : a ≤ 1000) : x - nI a < nI 0 ∨ ∃ j : Nat, 2147480000 ≤ j ∧ j < 2147483648 ∧ x - nI a = nI j := by
  rcases n_sgn (x - nI a) with q | ⟨j, q1, q2⟩
  · exact Or.inl q
  · refine Or.inr ⟨j, ?_, q1, q2⟩
    have e : x = nI (j + a) := by
      rw [← n_add, ← q2]
      exact (Int32.sub_add_cancel x (nI a)).symm
    rcases Nat.lt_or_ge j 2147480000 with g | g
    · exfalso
      rw [e] at h
      exact nI_pos (by omega) h
    · exact g
theorem n_low {a b : Nat} (h : a < b) (hb : b ≤ 1000) : nI a - nI b < nI 0 := by
  rw [Int32.lt_iff_toInt_lt, pk_sub_toInt (by omega) (by omega)]
  show (a : Int) - b < 0
  omega
theorem n_subm (b : Nat) : nI b - nI (b + 1) = nM := by
  rw [← n_add, ← Int32.sub_sub, Int32.sub_self]
  rfl
theorem n_subm0 : nI 0 - nI 1 = nM := rfl
theorem nT {a b : Nat} (h : a < b) : (a < b) = True := eq_true h
theorem nF {a b : Nat} (h : b ≤ a) : (a < b) = False := eq_false (Nat.not_lt.mpr h)
theorem lT {a b : Nat} (h : a ≤ b) : (a ≤ b) = True := eq_true h
theorem lF {a b : Nat} (h : b < a) : (a ≤ b) = False := eq_false (Nat.not_le.mpr h)
theorem eT {a b : Nat} (h : a = b) : (a = b) = True := eq_true h
theorem eF {a b : Nat} (h : a ≠ b) : (a = b) = False := eq_false h
/-- a byte of a number -/
def byN (x : Int32) : Nat := (x &&& nI 255).toNatClampNeg
theorem byN_lt (x : Int32) : byN x < 256 := by
  obtain ⟨j, h1, h2⟩ := pk_andE x (m := nI 255) 8 rfl
  unfold byN
  rw [h2, n_cl (by omega)]
  exact h1
theorem byN_eq (x : Int32) : x &&& nI 255 = nI (byN x) := by
  obtain ⟨j, h1, h2⟩ := pk_andE x (m := nI 255) 8 rfl
  unfold byN
  rw [h2, n_cl (by omega)]
theorem put_s {k n : Nat} {w : Int32} {b : Bool} {I : MI} {L : ML} {K : Bool → MI → ML → Prop} (hk : k < 4) (h : I 4 1 = nI n) (hn : n < 600) (hK : SW m_Tape_put 3 [vr 17 4, vi w, vi (nI (24 - 8 * k) + (-8 : Int32))] [] b (sI (sI I 5 n (nI (byN (w >>> (nI (24 - 8 * k) &&& nI 31))))) 4 1 (nI (n + 1))) L (kV K)) : SW m_Tape_put 3 [vr 17 4, vi w, vi (nI (24 - 8 * k))] [] b I L (kV K) := by
  refine v_Tape_put_3 ⟨fun q => absurd q (nI_pos (by omega)), fun _ => ⟨fun q => ?_, fun _ => ?_⟩⟩
  · exfalso
    rw [h] at q
    simp (disch := first | omega | assumption) only [n_lit, n_gLt, n_gLe, n_gEq, n_gEq2, n_gLe2, n_gLt2, n_m1, n_add, n_mul, n_lt, n_le, n_eq, n_cl, n_in, n_rem, n_mlt, n_mle, n_ltm, n_lem, n_eqm, n_meq, n_bit, n_shl, n_b0, n_b1, n_sub] at q
    omega
  · rw [h]
    refine ⟨?_, ?_⟩
    · simp (disch := first | omega | assumption) only [n_lit, n_gLt, n_gLe, n_gEq, n_gEq2, n_gLe2, n_gLt2, n_m1, n_add, n_mul, n_lt, n_le, n_eq, n_cl, n_in, n_rem, n_mlt, n_mle, n_ltm, n_lem, n_eqm, n_meq, n_bit, n_shl, n_b0, n_b1, n_sub]
      omega
    · have e : (nI n).toNatClampNeg = n := n_cl (by omega)
      rw [e, sI_c (by decide), h]
      have e2 : (w >>> (nI (24 - 8 * k) &&& 31)) &&& (255 : Int32) = nI (byN (w >>> (nI (24 - 8 * k) &&& nI 31))) := byN_eq _
      rw [e2, nI_1]
      exact hK
theorem c_put {n : Nat} {w : Int32} {b : Bool} {I : MI} {L : ML} {K : Bool → MI → ML → Prop} (h : I 4 1 = nI n) (hn : n + 4 ≤ 600) (hK : ∀ I', (∀ a, a ≠ 4 → a ≠ 5 → I' a = I a) → (∀ j, j ≠ 1 → I' 4 j = I 4 j) → I' 4 1 = nI (n + 4) → (∀ j, I' 5 j = if n ≤ j ∧ j < n + 4 then nI (byN (w >>> (nI (24 - 8 * (j - n)) &&& nI 31))) else I 5 j) → K b I' L) : CV m_Tape_put [vr 17 4, vi w] b I L K := by
  refine v_Tape_put_0 ?_
  refine put_s (k := 0) (by decide) h (by omega) ?_
  refine put_s (k := 1) (by decide) (sI_at _ _ _ _) (by omega) ?_
  refine put_s (k := 2) (by decide) (sI_at _ _ _ _) (by omega) ?_
  refine put_s (k := 3) (by decide) (sI_at _ _ _ _) (by omega) ?_
  refine v_Tape_put_3 ⟨fun _ => hK _ (fun a h1 h2 => ?_) (fun j hj => ?_) (sI_at _ _ _ _) (fun j => ?_), fun q => absurd (by decide) q⟩
  · rw [sI_c h1, sI_c h2, sI_c h1, sI_c h2, sI_c h1, sI_c h2, sI_c h1, sI_c h2]
  · rw [sI_j hj, sI_c (by decide), sI_j hj, sI_c (by decide), sI_j hj, sI_c (by decide), sI_j hj, sI_c (by decide)]
  · rw [sI_c (by decide)]
    by_cases e3 : j = n + 1 + 1 + 1
    · subst e3
      rw [sI_at, if_pos (by omega), show n + 1 + 1 + 1 - n = 3 by omega]
    · rw [sI_j e3, sI_c (by decide)]
      by_cases e2 : j = n + 1 + 1
      · subst e2
        rw [sI_at, if_pos (by omega), show n + 1 + 1 - n = 2 by omega]
      · rw [sI_j e2, sI_c (by decide)]
        by_cases e1 : j = n + 1
        · subst e1
          rw [sI_at, if_pos (by omega), show n + 1 - n = 1 by omega]
        · rw [sI_j e1, sI_c (by decide)]
          by_cases e0 : j = n
          · subst e0
            rw [sI_at, if_pos (by omega), show j - j = 0 by omega]
          · rw [sI_j e0, if_neg (by omega)]
/-- a tape that is fed -/
def fdW (a1 a2 a3 a4 a5 : Int32) (i : Nat) : Int32 := if i < 4 then a1 else if i < 8 then a2 else if i < 12 then a3 else if i < 16 then a4 else a5
def fdB (a1 a2 a3 a4 a5 : Int32) (i : Nat) : Nat := byN (fdW a1 a2 a3 a4 a5 i >>> (nI (24 - 8 * (i % 4)) &&& nI 31))
theorem s_feed {a1 a2 a3 a4 a5 : Int32} {n : Nat} {b : Bool} {I : MI} {L : ML} {K : Int32 → Bool → MI → ML → Prop} (h : I 4 1 = nI n) (hn : n ≤ 600) (hK : ∀ I', (∀ a, a ≠ 4 → a ≠ 5 → I' a = I a) → (∀ j, j ≠ 1 → I' 4 j = I 4 j) → I' 4 1 = nI (if n + 20 ≤ 600 then n + 20 else n) → (∀ j, j < n → I' 5 j = I 5 j) → (n + 20 ≤ 600 → ∀ j, n ≤ j → j < n + 20 → I' 5 j = nI (fdB a1 a2 a3 a4 a5 (j - n))) → K (if n + 20 ≤ 600 then nI (n + 20) else nM) b I' L) : CI m_S_feed [vr 21 0, vi a1, vi a2, vi a3, vi a4, vi a5] b I L K := by
  refine v_S_feed_0 (v_Tape_hasRoom_0 ⟨fun q => ⟨Or.inl rfl, fun c => absurd rfl c, fun _ => ?_⟩, fun q => ⟨Or.inr rfl, fun _ => ?_, fun c => absurd (by decide) c⟩⟩)
  · rw [h] at q
    simp (disch := first | omega | assumption) only [n_lit, n_gLt, n_gLe, n_gEq, n_gEq2, n_gLe2, n_gLt2, n_m1, n_add, n_mul, n_lt, n_le, n_eq, n_cl, n_in, n_rem, n_mlt, n_mle, n_ltm, n_lem, n_eqm, n_meq, n_bit, n_shl, n_b0, n_b1, n_sub] at q
    have := hK I (fun _ _ _ => rfl) (fun _ _ => rfl) (by rw [if_neg (by omega)]; exact h) (fun _ _ => rfl) (fun z => by omega)
    rw [if_neg (by omega)] at this
    exact this
  · rw [h] at q
    simp (disch := first | omega | assumption) only [n_lit, n_gLt, n_gLe, n_gEq, n_gEq2, n_gLe2, n_gLt2, n_m1, n_add, n_mul, n_lt, n_le, n_eq, n_cl, n_in, n_rem, n_mlt, n_mle, n_ltm, n_lem, n_eqm, n_meq, n_bit, n_shl, n_b0, n_b1, n_sub] at q
    refine c_put h (by omega) (fun I1 f1 g1 h1 p1 => ?_)
    refine c_put h1 (by omega) (fun I2 f2 g2 h2 p2 => ?_)
    refine c_put h2 (by omega) (fun I3 f3 g3 h3 p3 => ?_)
    refine c_put h3 (by omega) (fun I4 f4 g4 h4 p4 => ?_)
    refine c_put h4 (by omega) (fun I5 f5 g5 h5 p5 => ?_)
    rw [h5]
    have := hK I5 (fun a ha1 ha2 => by rw [f5 a ha1 ha2, f4 a ha1 ha2, f3 a ha1 ha2, f2 a ha1 ha2, f1 a ha1 ha2]) (fun j hj => by rw [g5 j hj, g4 j hj, g3 j hj, g2 j hj, g1 j hj]) (by rw [h5, if_pos (by omega)]) (fun j hj => by rw [p5, if_neg (by omega), p4, if_neg (by omega), p3, if_neg (by omega), p2, if_neg (by omega), p1, if_neg (by omega)]) (fun _ j j1 j2 => by
      unfold fdB fdW
      rw [p5]
      by_cases c5 : n + 16 ≤ j
      · rw [if_pos (by omega), if_neg (by omega), if_neg (by omega), if_neg (by omega), if_neg (by omega), show j - (n + 4 + 4 + 4 + 4) = (j - n) % 4 by omega]
      · rw [if_neg (by omega), p4]
        by_cases c4 : n + 12 ≤ j
        · rw [if_pos (by omega), if_neg (by omega), if_neg (by omega), if_neg (by omega), if_pos (by omega), show j - (n + 4 + 4 + 4) = (j - n) % 4 by omega]
        · rw [if_neg (by omega), p3]
          by_cases c3 : n + 8 ≤ j
          · rw [if_pos (by omega), if_neg (by omega), if_neg (by omega), if_pos (by omega), show j - (n + 4 + 4) = (j - n) % 4 by omega]
          · rw [if_neg (by omega), p2]
            by_cases c2 : n + 4 ≤ j
            · rw [if_pos (by omega), if_neg (by omega), if_pos (by omega), show j - (n + 4) = (j - n) % 4 by omega]
            · rw [if_neg (by omega), p1, if_pos (by omega), if_pos (by omega), Nat.mod_eq_of_lt (by omega : j - n < 4)])
    rw [if_pos (by omega)] at this
    exact this
