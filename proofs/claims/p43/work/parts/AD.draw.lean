/-! THE LAW: what it draws -/
theorem c_Lcell {Ls k : Nat} {b : Bool} {I : MI} {L : ML} {K : Int32 → Bool → MI → ML → Prop} (hs : I 100001 0 = nI Ls) (hL : Ls ≤ 260) (hk : k < 1000) (hK : ∀ v, K v b I L) : CI m_L_cellOf [vr 3 0, vi (nI k)] b I L K := by
  refine v_L_cellOf_0 ?_
  by_cases c : Ls ≤ k
  · simp (disch := first | omega | assumption) only [n_lit, n_gLt, n_gLe, n_gEq, n_gEq2, n_gLe2, n_gLt2, n_m1, n_add, n_mul, n_lt, n_le, n_eq, n_cl, n_in, n_rem, n_mlt, n_mle, n_ltm, n_lem, n_eqm, n_meq, n_bit, n_shl, n_b0, n_b1, n_sub, n_inT, nT, nF, lT, lF, eT, eF, not_false_eq_true, not_true_eq_false, sI_at, sI_c, sI_j, aI_at, aI_c, sL_at, sL_c, sL_j, true_and, and_true, not_true_eq_false, not_false_eq_true, forall_const, true_implies, false_implies, implies_true, if_true, if_false, ite_true, ite_false, Bool.not_eq_true, Bool.not_eq_false, Bool.true_eq_false, Bool.false_eq_true, false_and, and_false, or_true, true_or, false_or, or_false, hs]
    exact hK _
  · simp (disch := first | omega | assumption) only [n_lit, n_gLt, n_gLe, n_gEq, n_gEq2, n_gLe2, n_gLt2, n_m1, n_add, n_mul, n_lt, n_le, n_eq, n_cl, n_in, n_rem, n_mlt, n_mle, n_ltm, n_lem, n_eqm, n_meq, n_bit, n_shl, n_b0, n_b1, n_sub, n_inT, nT, nF, lT, lF, eT, eF, not_false_eq_true, not_true_eq_false, sI_at, sI_c, sI_j, aI_at, aI_c, sL_at, sL_c, sL_j, true_and, and_true, not_true_eq_false, not_false_eq_true, forall_const, true_implies, false_implies, implies_true, if_true, if_false, ite_true, ite_false, Bool.not_eq_true, Bool.not_eq_false, Bool.true_eq_false, Bool.false_eq_true, false_and, and_false, or_true, true_or, false_or, or_false, hs]
    exact hK _
theorem c_Lcell2 {Ls k : Nat} {a2 : Int32} {b : Bool} {I : MI} {L : ML} {K : Int32 → Bool → MI → ML → Prop} (ha : a2 = nI k) (hs : I 100001 0 = nI Ls) (hL : Ls ≤ 260) (hk : k < 1000) (hK : ∀ v, K v b I L) : CI m_L_cellOf [vr 3 0, vi a2] b I L K := by
  rw [ha]
  exact c_Lcell hs hL hk hK
def nR (x : Int32) (lo hi : Nat) : Prop := ∃ k, lo ≤ k ∧ k ≤ hi ∧ x = nI k
/-- a row that holds some village: its people p, its ties t so far -/
def vaE (r n m i j : Nat) (I : MI) : Prop := (I r 0 = nI n ∧ I r 1 = nI m ∧ nR (I r 2) 0 3 ∧ nR (I r 3) 0 30 ∧ nR (I r 4) 0 30) ∧ (∀ p, p < i → nR (I r (10 + p)) 0 5 ∧ nR (I r (30 + p)) 1 99) ∧ ∀ t, t < j → ∃ f g, f < n ∧ g < n ∧ f ≠ g ∧ I r (50 + 4 * t) = nI f ∧ I r (50 + 4 * t + 1) = nI g ∧ nR (I r (50 + 4 * t + 2)) 1 3 ∧ nR (I r (50 + 4 * t + 3)) 1 9
def cl (x : Int32) : Nat := x.toNatClampNeg
theorem cl_n {k : Nat} (h : k < 1000) : cl (nI k) = k := n_cl (by omega)
theorem nR_cl {x : Int32} {lo hi : Nat} (h : nR x lo hi) (hh : hi < 1000) : lo ≤ cl x ∧ cl x ≤ hi ∧ x = nI (cl x) := by
  obtain ⟨k, h1, h2, h3⟩ := h
  rw [h3, cl_n (by omega)]
  exact ⟨h1, h2, rfl⟩
def rdV (r : Nat) (I : MI) : Vil := mkV (cl (I r 0)) (cl (I r 1)) (cl (I r 2)) (cl (I r 3)) (cl (I r 4)) (fun p => cl (I r (10 + p))) (fun p => cl (I r (30 + p))) (fun t => cl (I r (50 + 4 * t))) (fun t => cl (I r (50 + 4 * t + 1))) (fun t => cl (I r (50 + 4 * t + 2))) (fun t => cl (I r (50 + 4 * t + 3)))
theorem rdV_ok {r n m : Nat} {I : MI} (h : vaE r n m n m I) (h1 : 1 ≤ n ∧ n ≤ 8) (h2 : m ≤ 12) : Vok (rdV r I) ∧ vaP r (rdV r I) I ∧ (rdV r I).n = n ∧ (rdV r I).m = m := by
  obtain ⟨⟨a0, a1, a2, a3, a4⟩, a5, a6⟩ := h
  have e0 : cl (I r 0) = n := by rw [a0, cl_n (by omega)]
  have e1 : cl (I r 1) = m := by rw [a1, cl_n (by omega)]
  obtain ⟨-, b2, c2⟩ := nR_cl a2 (by omega)
  obtain ⟨-, b3, c3⟩ := nR_cl a3 (by omega)
  obtain ⟨-, b4, c4⟩ := nR_cl a4 (by omega)
  refine ⟨⟨?_, ?_, b2, b3, b4, fun p hp => ?_, fun t ht => ?_⟩, ⟨⟨?_, ?_, c2, c3, c4⟩, fun p hp => ?_, fun t ht => ?_⟩, e0, e1⟩
  · show 1 ≤ cl (I r 0) ∧ cl (I r 0) ≤ 8
    rw [e0]
    exact h1
  · show cl (I r 1) ≤ 12
    rw [e1]
    exact h2
  · have hp : p < cl (I r 0) := hp
    rw [e0] at hp
    obtain ⟨k1, k2⟩ := a5 p hp
    obtain ⟨-, d1, -⟩ := nR_cl k1 (by omega)
    obtain ⟨f1, f2, -⟩ := nR_cl k2 (by omega)
    exact ⟨d1, f1, f2⟩
  · have ht : t < cl (I r 1) := ht
    rw [e1] at ht
    obtain ⟨f, g, f1, g1, fg, e2, e3, k1, k2⟩ := a6 t ht
    obtain ⟨x1, x2, -⟩ := nR_cl k1 (by omega)
    obtain ⟨y1, y2, -⟩ := nR_cl k2 (by omega)
    show cl (I r (50 + 4 * t)) < cl (I r 0) ∧ cl (I r (50 + 4 * t + 1)) < cl (I r 0) ∧ cl (I r (50 + 4 * t)) ≠ cl (I r (50 + 4 * t + 1)) ∧ (1 ≤ cl (I r (50 + 4 * t + 2)) ∧ cl (I r (50 + 4 * t + 2)) ≤ 3) ∧ 1 ≤ cl (I r (50 + 4 * t + 3)) ∧ cl (I r (50 + 4 * t + 3)) ≤ 9
    rw [e0, e2, e3, cl_n (by omega), cl_n (by omega)]
    exact ⟨f1, g1, fg, ⟨x1, x2⟩, y1, y2⟩
  · show I r 0 = nI (cl (I r 0))
    rw [e0]
    exact a0
  · show I r 1 = nI (cl (I r 1))
    rw [e1]
    exact a1
  · have hp : p < cl (I r 0) := hp
    rw [e0] at hp
    obtain ⟨k1, k2⟩ := a5 p hp
    exact ⟨(nR_cl k1 (by omega)).2.2, (nR_cl k2 (by omega)).2.2⟩
  · have ht : t < cl (I r 1) := ht
    rw [e1] at ht
    obtain ⟨f, g, f1, g1, fg, e2, e3, k1, k2⟩ := a6 t ht
    refine ⟨?_, ?_, (nR_cl k1 (by omega)).2.2, (nR_cl k2 (by omega)).2.2⟩
    · show I r (50 + 4 * t) = nI (cl (I r (50 + 4 * t)))
      rw [e2, cl_n (by omega)]
    · show I r (50 + 4 * t + 1) = nI (cl (I r (50 + 4 * t + 1)))
      rw [e3, cl_n (by omega)]
section DR
variable {n m Ls r nn bc bs : Nat} {K : Nat → Nat → Bool → Nat → MI → ML → Prop}
theorem dr_ties (hL : Ls ≤ 260) (hn : 1 ≤ n ∧ n ≤ 8) (hm : m ≤ 12) (hm2 : 0 < m → 2 ≤ n) (hr : 187 ≤ r ∧ r < 1000) (I0 : MI) (hK : ∀ b' I' L', (∀ a, a ≠ r → I' a = I0 a) → vaE r n m n m I' → K 900 r b' nn I' L') : ∀ f k, k + f = m → ∀ b I L, I 100001 0 = nI Ls → (∀ a, a ≠ r → I a = I0 a) → vaE r n m n k I → NW nn bc bs m_L_draw 169 [vr 3 0, vi (nI 1), vi (nI n), un, vr 900 r, un, un, vi (nI k), un] [] b I L (nwR K) := by
  intro f
  induction f with
  | zero =>
    intro k hk b I L hs h0 h
    obtain rfl : k = m := by omega
    have e1 := h.1.2.1
    refine v_L_draw_169 ?_
    simp (disch := first | omega | assumption) only [n_lit, n_gLt, n_gLe, n_gEq, n_gEq2, n_gLe2, n_gLt2, n_m1, n_add, n_mul, n_lt, n_le, n_eq, n_cl, n_in, n_rem, n_mlt, n_mle, n_ltm, n_lem, n_eqm, n_meq, n_bit, n_shl, n_b0, n_b1, n_sub, n_inT, nT, nF, lT, lF, eT, eF, not_false_eq_true, not_true_eq_false, sI_at, sI_c, sI_j, aI_at, aI_c, sL_at, sL_c, sL_j, true_and, and_true, not_true_eq_false, not_false_eq_true, forall_const, true_implies, false_implies, implies_true, if_true, if_false, ite_true, ite_false, Bool.not_eq_true, Bool.not_eq_false, Bool.true_eq_false, Bool.false_eq_true, false_and, and_false, or_true, true_or, false_or, or_false, e1]
    exact hK b I L h0 h
  | succ f ih =>
    intro k hk b I L hs h0 h
    have e1 := h.1.2.1
    have n2 := hm2 (by omega)
    have ek : nI k / nI 2 = nI (k / 2) := n_div (by omega) (by omega) (by omega)
    refine v_L_draw_169 ?_
    simp (disch := first | omega | assumption) only [n_lit, n_gLt, n_gLe, n_gEq, n_gEq2, n_gLe2, n_gLt2, n_m1, n_add, n_mul, n_lt, n_le, n_eq, n_cl, n_in, n_rem, n_mlt, n_mle, n_ltm, n_lem, n_eqm, n_meq, n_bit, n_shl, n_b0, n_b1, n_sub, n_inT, nT, nF, lT, lF, eT, eF, not_false_eq_true, not_true_eq_false, sI_at, sI_c, sI_j, aI_at, aI_c, sL_at, sL_c, sL_j, true_and, and_true, not_true_eq_false, not_false_eq_true, forall_const, true_implies, false_implies, implies_true, if_true, if_false, ite_true, ite_false, Bool.not_eq_true, Bool.not_eq_false, Bool.true_eq_false, Bool.false_eq_true, false_and, and_false, or_true, true_or, false_or, or_false, e1, ek]
    refine c_Lcell hs hL (by omega) (fun v => ?_)
    obtain ⟨j1, h1, ej1⟩ := and_7 (v >>> (nI (14 * (k - k / 2 * 2)) &&& nI 31))
    obtain ⟨j2, h2, ej2⟩ := and_7 (v >>> (nI (14 * (k - k / 2 * 2)) &&& nI 31) >>> (nI 3 &&& nI 31))
    obtain ⟨j3, h3, ej3⟩ := and_3 (v >>> (nI (14 * (k - k / 2 * 2)) &&& nI 31) >>> (nI 6 &&& nI 31))
    obtain ⟨j4, h4, ej4⟩ := and_15 (v >>> (nI (14 * (k - k / 2 * 2)) &&& nI 31) >>> (nI 8 &&& nI 31))
    have m1 : j1 % n < n := Nat.mod_lt _ (by omega)
    have m2 : j2 % (n - 1) < n - 1 := Nat.mod_lt _ (by omega)
    have m3 : (j1 % n + 1 + j2 % (n - 1)) % n < n := Nat.mod_lt _ (by omega)
    have ne : j1 % n ≠ (j1 % n + 1 + j2 % (n - 1)) % n := by
      by_cases c : j1 % n + 1 + j2 % (n - 1) < n
      · rw [Nat.mod_eq_of_lt c]
        omega
      · rw [Nat.mod_eq_sub_mod (a := j1 % n + 1 + j2 % (n - 1)) (by omega), Nat.mod_eq_of_lt (a := j1 % n + 1 + j2 % (n - 1) - n) (by omega)]
        omega
    have m4 : j3 % 3 < 3 := Nat.mod_lt _ (by omega)
    have m5 : j4 % 9 < 9 := Nat.mod_lt _ (by omega)
    have er1 : nI j1 - nI j1 / nI n * nI n = nI (j1 % n) := n_rem (by omega) (by omega) (by omega)
    have er2 : nI j2 - nI j2 / nI (n - 1) * nI (n - 1) = nI (j2 % (n - 1)) := n_rem (by omega) (by omega) (by omega)
    have er3 : nI j3 - nI j3 / nI 3 * nI 3 = nI (j3 % 3) := n_rem (by omega) (by omega) (by omega)
    have er4 : nI j4 - nI j4 / nI 9 * nI 9 = nI (j4 % 9) := n_rem (by omega) (by omega) (by omega)
    have en1 : nI n - nI 1 = nI (n - 1) := n_sub (by omega)
    have er5 : nI (j1 % n + 1 + j2 % (n - 1)) - nI (j1 % n + 1 + j2 % (n - 1)) / nI n * nI n = nI ((j1 % n + 1 + j2 % (n - 1)) % n) := n_rem (by omega) (by omega) (by omega)
    simp (disch := first | omega | assumption) only [n_lit, n_gLt, n_gLe, n_gEq, n_gEq2, n_gLe2, n_gLt2, n_m1, n_add, n_mul, n_lt, n_le, n_eq, n_cl, n_in, n_rem, n_mlt, n_mle, n_ltm, n_lem, n_eqm, n_meq, n_bit, n_shl, n_b0, n_b1, n_sub, n_inT, nT, nF, lT, lF, eT, eF, not_false_eq_true, not_true_eq_false, sI_at, sI_c, sI_j, aI_at, aI_c, sL_at, sL_c, sL_j, true_and, and_true, not_true_eq_false, not_false_eq_true, forall_const, true_implies, false_implies, implies_true, if_true, if_false, ite_true, ite_false, Bool.not_eq_true, Bool.not_eq_false, Bool.true_eq_false, Bool.false_eq_true, false_and, and_false, or_true, true_or, false_or, or_false, ej1, ej2, ej3, ej4, er1, er2, er3, er4, er5, en1]
    obtain ⟨⟨a0, a1, a2, a3, a4⟩, a5, a6⟩ := h
    refine ih (k + 1) (by omega) b _ L ?_ (fun a ha => ?_) ⟨⟨?_, ?_, ?_, ?_, ?_⟩, fun p hp => ?_, fun t ht => ?_⟩
    · rw [sI_c (by omega), sI_c (by omega), sI_c (by omega), sI_c (by omega)]
      exact hs
    · rw [sI_c ha, sI_c ha, sI_c ha, sI_c ha]
      exact h0 a ha
    · rw [sI_j (by omega), sI_j (by omega), sI_j (by omega), sI_j (by omega)]
      exact a0
    · rw [sI_j (by omega), sI_j (by omega), sI_j (by omega), sI_j (by omega)]
      exact a1
    · rw [sI_j (by omega), sI_j (by omega), sI_j (by omega), sI_j (by omega)]
      exact a2
    · rw [sI_j (by omega), sI_j (by omega), sI_j (by omega), sI_j (by omega)]
      exact a3
    · rw [sI_j (by omega), sI_j (by omega), sI_j (by omega), sI_j (by omega)]
      exact a4
    · rw [sI_j (by omega), sI_j (by omega), sI_j (by omega), sI_j (by omega), sI_j (by omega), sI_j (by omega), sI_j (by omega), sI_j (by omega)]
      exact a5 p hp
    · by_cases e : t = k
      · subst e
        refine ⟨_, _, m1, m3, ne, ?_, ?_, ⟨1 + j3 % 3, by omega, by omega, ?_⟩, ⟨1 + j4 % 9, by omega, by omega, ?_⟩⟩
        · rw [sI_j (by omega), sI_j (by omega), sI_j (by omega), sI_at]
        · rw [sI_j (by omega), sI_j (by omega), show 50 + 4 * t + 1 = 51 + 4 * t by omega, sI_at]
        · rw [sI_j (by omega), show 50 + 4 * t + 2 = 52 + 4 * t by omega, sI_at]
        · rw [show 50 + 4 * t + 3 = 53 + 4 * t by omega, sI_at]
      · obtain ⟨f, g, q⟩ := a6 t (by omega)
        refine ⟨f, g, ?_⟩
        rw [sI_j (by omega), sI_j (by omega), sI_j (by omega), sI_j (by omega), sI_j (by omega), sI_j (by omega), sI_j (by omega), sI_j (by omega), sI_j (by omega), sI_j (by omega), sI_j (by omega), sI_j (by omega), sI_j (by omega), sI_j (by omega), sI_j (by omega), sI_j (by omega)]
        exact q
theorem dr_people {x5 x6 : Int32} (hL : Ls ≤ 260) (hn : 1 ≤ n ∧ n ≤ 8) (hm : m ≤ 12) (hm2 : 0 < m → 2 ≤ n) (hr : 187 ≤ r ∧ r < 1000) (I0 : MI) (hK : ∀ b' I' L', (∀ a, a ≠ r → I' a = I0 a) → vaE r n m n m I' → K 900 r b' nn I' L') : ∀ f i, i + f = n → ∀ b I L, I 100001 0 = nI Ls → (∀ a, a ≠ r → I a = I0 a) → vaE r n m i 0 I → NW nn bc bs m_L_draw 92 [vr 3 0, vi (nI 1), vi (nI n), un, vr 900 r, vi x5, vi x6, vi (nI i), un] [] b I L (nwR K) := by
  intro f
  induction f with
  | zero =>
    intro i hi b I L hs h0 h
    obtain rfl : i = n := by omega
    refine v_L_draw_92 ?_
    simp (disch := first | omega | assumption) only [n_lit, n_gLt, n_gLe, n_gEq, n_gEq2, n_gLe2, n_gLt2, n_m1, n_add, n_mul, n_lt, n_le, n_eq, n_cl, n_in, n_rem, n_mlt, n_mle, n_ltm, n_lem, n_eqm, n_meq, n_bit, n_shl, n_b0, n_b1, n_sub, n_inT, nT, nF, lT, lF, eT, eF, not_false_eq_true, not_true_eq_false, sI_at, sI_c, sI_j, aI_at, aI_c, sL_at, sL_c, sL_j, true_and, and_true, not_true_eq_false, not_false_eq_true, forall_const, true_implies, false_implies, implies_true, if_true, if_false, ite_true, ite_false, Bool.not_eq_true, Bool.not_eq_false, Bool.true_eq_false, Bool.false_eq_true, false_and, and_false, or_true, true_or, false_or, or_false]
    exact dr_ties hL hn hm hm2 hr I0 hK m 0 (Nat.zero_add _) b I L hs h0 h
  | succ f ih =>
    intro i hi b I L hs h0 h
    obtain ⟨j1, h1, ej1⟩ := and_7 (x5 >>> (nI (11 + 3 * i) &&& nI 31))
    obtain ⟨j2, h2, ej2⟩ := and_3 (x6 >>> (nI (4 * i) &&& nI 31))
    obtain ⟨j3, h3, ej3⟩ := and_15 (x6 >>> (nI (4 * i + 1) &&& nI 31))
    have m1 : j1 % 6 < 6 := Nat.mod_lt _ (by omega)
    have er1 : nI j1 - nI j1 / nI 6 * nI 6 = nI (j1 % 6) := n_rem (by omega) (by omega) (by omega)
    have nx : ∀ d, 1 ≤ d → d ≤ 99 → NW nn bc bs m_L_draw 92 [vr 3 0, vi (nI 1), vi (nI n), un, vr 900 r, vi x5, vi x6, vi (nI (i + 1)), un] [] b (sI (sI I r (10 + i) (nI (j1 % 6))) r (30 + i) (nI d)) L (nwR K) := fun d d1 d2 => by
      obtain ⟨⟨a0, a1, a2, a3, a4⟩, a5, -⟩ := h
      refine ih (i + 1) (by omega) b _ L ?_ (fun a ha => ?_) ⟨⟨?_, ?_, ?_, ?_, ?_⟩, fun p hp => ?_, fun t ht => absurd ht (Nat.not_lt_zero _)⟩
      · rw [sI_c (by omega), sI_c (by omega)]
        exact hs
      · rw [sI_c ha, sI_c ha]
        exact h0 a ha
      · rw [sI_j (by omega), sI_j (by omega)]
        exact a0
      · rw [sI_j (by omega), sI_j (by omega)]
        exact a1
      · rw [sI_j (by omega), sI_j (by omega)]
        exact a2
      · rw [sI_j (by omega), sI_j (by omega)]
        exact a3
      · rw [sI_j (by omega), sI_j (by omega)]
        exact a4
      · by_cases e : p = i
        · subst e
          refine ⟨⟨j1 % 6, by omega, by omega, ?_⟩, ⟨d, d1, d2, ?_⟩⟩
          · rw [sI_j (by omega), sI_at]
          · rw [sI_at]
        · rw [sI_j (by omega), sI_j (by omega), sI_j (by omega), sI_j (by omega)]
          exact a5 p (by omega)
    refine v_L_draw_92 ?_
    by_cases c : j2 = 0
    · simp (disch := first | omega | assumption) only [n_lit, n_gLt, n_gLe, n_gEq, n_gEq2, n_gLe2, n_gLt2, n_m1, n_add, n_mul, n_lt, n_le, n_eq, n_cl, n_in, n_rem, n_mlt, n_mle, n_ltm, n_lem, n_eqm, n_meq, n_bit, n_shl, n_b0, n_b1, n_sub, n_inT, nT, nF, lT, lF, eT, eF, not_false_eq_true, not_true_eq_false, sI_at, sI_c, sI_j, aI_at, aI_c, sL_at, sL_c, sL_j, true_and, and_true, not_true_eq_false, not_false_eq_true, forall_const, true_implies, false_implies, implies_true, if_true, if_false, ite_true, ite_false, Bool.not_eq_true, Bool.not_eq_false, Bool.true_eq_false, Bool.false_eq_true, false_and, and_false, or_true, true_or, false_or, or_false, ej1, ej2, ej3, er1]
      exact nx (1 + j3) (by omega) (by omega)
    · simp (disch := first | omega | assumption) only [n_lit, n_gLt, n_gLe, n_gEq, n_gEq2, n_gLe2, n_gLt2, n_m1, n_add, n_mul, n_lt, n_le, n_eq, n_cl, n_in, n_rem, n_mlt, n_mle, n_ltm, n_lem, n_eqm, n_meq, n_bit, n_shl, n_b0, n_b1, n_sub, n_inT, nT, nF, lT, lF, eT, eF, not_false_eq_true, not_true_eq_false, sI_at, sI_c, sI_j, aI_at, aI_c, sL_at, sL_c, sL_j, true_and, and_true, not_true_eq_false, not_false_eq_true, forall_const, true_implies, false_implies, implies_true, if_true, if_false, ite_true, ite_false, Bool.not_eq_true, Bool.not_eq_false, Bool.true_eq_false, Bool.false_eq_true, false_and, and_false, or_true, true_or, false_or, or_false, ej1, ej2, ej3, er1]
      exact nx 1 (by omega) (by omega)
theorem c_Ldraw {m0 : Nat} {b : Bool} {I : MI} {L : ML} (hs : I 100001 0 = nI Ls) (hL : Ls ≤ 260) (hn : 1 ≤ n ∧ n ≤ 8) (hm : m0 ≤ 12) (hnn : 187 ≤ nn ∧ nn < 1000) (hbc : 1 ≤ bc) (hbs : 100 ≤ bs) (hK : ∀ b' I' L' m, m ≤ 12 → (∀ a, a ≠ nn → I' a = I a) → vaE nn n m n m I' → K 900 nn b' (nn + 1) I' L') : NW nn bc bs m_L_draw 0 [vr 3 0, vi (nI 1), vi (nI n), vi (nI m0), un, un, un, un, un] [] b I L (nwR K) := by
  refine v_L_draw_0 ?_
  refine NW_newa (hf := rfl) hbc (by omega) ?_
  refine v_L_draw_4 ?_
  simp (disch := first | omega | assumption) only [n_lit, n_gLt, n_gLe, n_gEq, n_gEq2, n_gLe2, n_gLt2, n_m1, n_add, n_mul, n_lt, n_le, n_eq, n_cl, n_in, n_rem, n_mlt, n_mle, n_ltm, n_lem, n_eqm, n_meq, n_bit, n_shl, n_b0, n_b1, n_sub, n_inT, nT, nF, lT, lF, eT, eF, not_false_eq_true, not_true_eq_false, sI_at, sI_c, sI_j, aI_at, aI_c, sL_at, sL_c, sL_j, true_and, and_true, not_true_eq_false, not_false_eq_true, forall_const, true_implies, false_implies, implies_true, if_true, if_false, ite_true, ite_false, Bool.not_eq_true, Bool.not_eq_false, Bool.true_eq_false, Bool.false_eq_true, false_and, and_false, or_true, true_or, false_or, or_false]
  have hs1 : (aI I nn (fun _ => 0)) 100001 0 = nI Ls := by rw [aI_o (by omega)]; exact hs
  refine c_Lcell hs1 hL (by omega) (fun x => ?_)
  refine c_Lcell hs1 hL (by omega) (fun y => ?_)
  obtain ⟨j1, h1, ej1⟩ := and_15 x
  obtain ⟨j2, ej2⟩ : ∃ j, j = (bt x 4).toNat := ⟨_, rfl⟩
  have h2 : j2 < 2 := by rw [ej2]; cases bt x 4 <;> decide
  obtain ⟨j3, h3, ej3⟩ := and_7 (x >>> (nI 5 &&& nI 31))
  obtain ⟨j4, ej4⟩ : ∃ j, j = (bt x 8).toNat := ⟨_, rfl⟩
  have h4 : j4 < 2 := by rw [ej4]; cases bt x 8 <;> decide
  obtain ⟨j5, h5, ej5⟩ := and_3 (x >>> (nI 9 &&& nI 31))
  have m1 : j1 % 4 < 4 := Nat.mod_lt _ (by omega)
  have er1 : nI j1 - nI j1 / nI 4 * nI 4 = nI (j1 % 4) := n_rem (by omega) (by omega) (by omega)
  have b1 : j2 * j3 ≤ 7 := by
    have : j2 * j3 ≤ 1 * j3 := Nat.mul_le_mul_right _ (by omega)
    omega
  have b2 : j4 * j5 ≤ 3 := by
    have : j4 * j5 ≤ 1 * j5 := Nat.mul_le_mul_right _ (by omega)
    omega
  have nx : ∀ m, m ≤ 12 → (0 < m → 2 ≤ n) → NW (nn + 1) (bc - 1) (bs - 100) m_L_draw 92 [vr 3 0, vi (nI 1), vi (nI n), un, vr 900 nn, vi x, vi y, vi (nI 0), un] [] b (sI (sI (sI (sI (sI (aI I nn (fun _ => 0)) nn 0 (nI n)) nn 1 (nI m)) nn 2 (nI (j1 % 4))) nn 3 (nI (j2 * j3))) nn 4 (nI (j4 * j5))) (aL L nn (fun _ => 0)) (nwR K) := fun m g1 g2 => by
    refine dr_people hL hn g1 g2 ⟨hnn.1, hnn.2⟩ I (fun b' I' L' f h => hK b' I' L' m g1 f h) n 0 (Nat.zero_add _) b _ _ ?_ (fun a ha => ?_) ⟨⟨?_, ?_, ⟨j1 % 4, by omega, by omega, ?_⟩, ⟨j2 * j3, by omega, by omega, ?_⟩, ⟨j4 * j5, by omega, by omega, ?_⟩⟩, fun p hp => absurd hp (Nat.not_lt_zero _), fun t ht => absurd ht (Nat.not_lt_zero _)⟩
    · rw [sI_c (by omega), sI_c (by omega), sI_c (by omega), sI_c (by omega), sI_c (by omega)]
      exact hs1
    · rw [sI_c ha, sI_c ha, sI_c ha, sI_c ha, sI_c ha, aI_o ha]
    · rw [sI_j (by omega), sI_j (by omega), sI_j (by omega), sI_j (by omega), sI_at]
    · rw [sI_j (by omega), sI_j (by omega), sI_j (by omega), sI_at]
    · rw [sI_j (by omega), sI_j (by omega), sI_at]
    · rw [sI_j (by omega), sI_at]
    · rw [sI_at]
  by_cases c : 2 ≤ n
  · simp (disch := first | omega | assumption) only [n_lit, n_gLt, n_gLe, n_gEq, n_gEq2, n_gLe2, n_gLt2, n_m1, n_add, n_mul, n_lt, n_le, n_eq, n_cl, n_in, n_rem, n_mlt, n_mle, n_ltm, n_lem, n_eqm, n_meq, n_bit, n_shl, n_b0, n_b1, n_sub, n_inT, nT, nF, lT, lF, eT, eF, not_false_eq_true, not_true_eq_false, sI_at, sI_c, sI_j, aI_at, aI_c, sL_at, sL_c, sL_j, true_and, and_true, not_true_eq_false, not_false_eq_true, forall_const, true_implies, false_implies, implies_true, if_true, if_false, ite_true, ite_false, Bool.not_eq_true, Bool.not_eq_false, Bool.true_eq_false, Bool.false_eq_true, false_and, and_false, or_true, true_or, false_or, or_false, ej1, ← ej2, ej3, ← ej4, ej5, er1]
    exact nx m0 hm (fun _ => c)
  · simp (disch := first | omega | assumption) only [n_lit, n_gLt, n_gLe, n_gEq, n_gEq2, n_gLe2, n_gLt2, n_m1, n_add, n_mul, n_lt, n_le, n_eq, n_cl, n_in, n_rem, n_mlt, n_mle, n_ltm, n_lem, n_eqm, n_meq, n_bit, n_shl, n_b0, n_b1, n_sub, n_inT, nT, nF, lT, lF, eT, eF, not_false_eq_true, not_true_eq_false, sI_at, sI_c, sI_j, aI_at, aI_c, sL_at, sL_c, sL_j, true_and, and_true, not_true_eq_false, not_false_eq_true, forall_const, true_implies, false_implies, implies_true, if_true, if_false, ite_true, ite_false, Bool.not_eq_true, Bool.not_eq_false, Bool.true_eq_false, Bool.false_eq_true, false_and, and_false, or_true, true_or, false_or, or_false, ej1, ← ej2, ej3, ← ej4, ej5, er1]
    exact nx 0 (by omega) (fun h => absurd h (Nat.lt_irrefl 0))
end DR
/-- a row that holds some acts -/
def taE (r A k : Nat) (I : MI) : Prop := I r 0 = nI A ∧ I (200000 + r) 0 = nI (1 + 4 * A) ∧ ∀ i, i < k → ∃ q, Aok q ∧ I r (1 + 4 * i) = nI q.1 ∧ I r (1 + 4 * i + 1) = nI q.2.1 ∧ I r (1 + 4 * i + 2) = nI q.2.2.1 ∧ I r (1 + 4 * i + 3) = if q.1 = 2 then nI q.2.2.2 else nM
theorem ta_some {r A : Nat} {I : MI} (hA : A ≤ 4) : ∀ k, k ≤ A → taE r A k I → ∃ T : List Act, T.length = k ∧ (∀ q, q ∈ T → Aok q) ∧ ∀ i q, T[i]? = some q → I r (1 + 4 * i) = nI q.1 ∧ I r (1 + 4 * i + 1) = nI q.2.1 ∧ I r (1 + 4 * i + 2) = nI q.2.2.1 ∧ I r (1 + 4 * i + 3) = if q.1 = 2 then nI q.2.2.2 else nM
  | 0, _, _ => ⟨[], rfl, fun q hq => absurd hq (List.not_mem_nil), fun i q h => by cases h⟩
  | k + 1, hk, h => by
    obtain ⟨h0, h1, h2⟩ := h
    obtain ⟨T, t1, t2, t3⟩ := ta_some hA k (by omega) ⟨h0, h1, fun i hi => h2 i (by omega)⟩
    obtain ⟨q, q1, q2⟩ := h2 k (by omega)
    refine ⟨T ++ [q], by rw [List.length_append, t1]; rfl, fun z hz => ?_, fun i z hz => ?_⟩
    · rcases List.mem_append.mp hz with hz | hz
      · exact t2 z hz
      · rw [List.mem_singleton.mp hz]
        exact q1
    · by_cases c : i < k
      · rw [List.getElem?_append_left (by omega)] at hz
        exact t3 i z hz
      · have hl := (List.getElem?_eq_some_iff.mp hz).1
        rw [List.length_append, t1] at hl
        have hl : i < k + 1 := hl
        obtain rfl : i = k := by omega
        rw [List.getElem?_append_right (by omega), t1, Nat.sub_self] at hz
        have : q = z := Option.some.inj hz
        subst this
        exact q2
theorem ta_row {r A : Nat} {I : MI} (hA : A ≤ 4) (h : taE r A A I) : ∃ T : List Act, T.length = A ∧ (∀ q, q ∈ T → Aok q) ∧ taP r T I ∧ I (200000 + r) 0 = nI (1 + 4 * T.length) := by
  obtain ⟨T, t1, t2, t3⟩ := ta_some hA A (Nat.le_refl _) h
  exact ⟨T, t1, t2, ⟨by rw [t1]; exact h.1, ⟨1 + 4 * A, by rw [t1]; exact Nat.le_refl _, by omega, h.2.1⟩, t3⟩, by rw [t1]; exact h.2.1⟩
section DT
variable {n m Ls A r nn bc bs : Nat} {K : Nat → Nat → Bool → Nat → MI → ML → Prop}
theorem dt_acts (hL : Ls ≤ 260) (hn : 1 ≤ n ∧ n ≤ 8) (hm : m ≤ 12) (hA : A ≤ 4) (hr : 187 ≤ r ∧ r < 1000) (I0 : MI) (hK : ∀ b' I' L', (∀ a, a ≠ r → I' a = I0 a) → taE r A A I' → K 4 r b' nn I' L') : ∀ f k, k + f = A → ∀ b I L, I 100001 0 = nI Ls → (∀ a, a ≠ r → I a = I0 a) → taE r A k I → NW nn bc bs m_L_drawTelling 17 [vr 3 0, vi (nI 9), vi (nI A), vi (nI n), vi (nI m), vr 4 r, vi (nI k), un, un, un, un] [] b I L (nwR K) := by
  intro f
  induction f with
  | zero =>
    intro k hk b I L hs h0 h
    obtain rfl : k = A := by omega
    refine v_L_drawTelling_17 ?_
    simp (disch := first | omega | assumption) only [n_lit, n_gLt, n_gLe, n_gEq, n_gEq2, n_gLe2, n_gLt2, n_m1, n_add, n_mul, n_lt, n_le, n_eq, n_cl, n_in, n_rem, n_mlt, n_mle, n_ltm, n_lem, n_eqm, n_meq, n_bit, n_shl, n_b0, n_b1, n_sub, n_inT, nT, nF, lT, lF, eT, eF, not_false_eq_true, not_true_eq_false, sI_at, sI_c, sI_j, aI_at, aI_c, sL_at, sL_c, sL_j, true_and, and_true, not_true_eq_false, not_false_eq_true, forall_const, true_implies, false_implies, implies_true, if_true, if_false, ite_true, ite_false, Bool.not_eq_true, Bool.not_eq_false, Bool.true_eq_false, Bool.false_eq_true, false_and, and_false, or_true, true_or, false_or, or_false]
    exact hK b I L h0 h
  | succ f ih =>
    intro k hk b I L hs h0 h
    have eN := h.2.1
    have nx : ∀ q : Act, Aok q → NW nn bc bs m_L_drawTelling 17 [vr 3 0, vi (nI 9), vi (nI A), vi (nI n), vi (nI m), vr 4 r, vi (nI (k + 1)), un, un, un, un] [] b (sI (sI (sI (sI I r (1 + 4 * k) (nI q.1)) r (1 + 4 * k + 1) (nI q.2.1)) r (1 + 4 * k + 2) (nI q.2.2.1)) r (1 + 4 * k + 3) (if q.1 = 2 then nI q.2.2.2 else nM)) L (nwR K) := fun q hq => by
      refine ih (k + 1) (by omega) b _ L ?_ (fun a ha => ?_) ⟨?_, ?_, fun i hi => ?_⟩
      · rw [sI_c (by omega), sI_c (by omega), sI_c (by omega), sI_c (by omega)]
        exact hs
      · rw [sI_c ha, sI_c ha, sI_c ha, sI_c ha]
        exact h0 a ha
      · rw [sI_j (by omega), sI_j (by omega), sI_j (by omega), sI_j (by omega)]
        exact h.1
      · rw [sI_c (by omega), sI_c (by omega), sI_c (by omega), sI_c (by omega)]
        exact eN
      · by_cases e : i = k
        · subst e
          refine ⟨q, hq, ?_, ?_, ?_, ?_⟩
          · rw [sI_j (by omega), sI_j (by omega), sI_j (by omega), sI_at]
          · rw [sI_j (by omega), sI_j (by omega), sI_at]
          · rw [sI_j (by omega), sI_at]
          · rw [sI_at]
        · obtain ⟨z, hz, hz2⟩ := h.2.2 i (by omega)
          refine ⟨z, hz, ?_⟩
          rw [sI_j (by omega), sI_j (by omega), sI_j (by omega), sI_j (by omega), sI_j (by omega), sI_j (by omega), sI_j (by omega), sI_j (by omega), sI_j (by omega), sI_j (by omega), sI_j (by omega), sI_j (by omega), sI_j (by omega), sI_j (by omega), sI_j (by omega), sI_j (by omega)]
          exact hz2
    refine v_L_drawTelling_17 ⟨fun z => ?_, fun _ => ?_⟩
    · have z : nI A ≤ nI k := z
      rw [n_le (by omega) (by omega)] at z
      omega
    refine c_Lcell2 (n_add _ _) hs hL (by omega) (fun v => ?_)
    obtain ⟨j7, h7, e7⟩ := and_7 v
    obtain ⟨j3, h3, e3⟩ := and_7 (v >>> (nI 3 &&& nI 31))
    obtain ⟨j6, h6, e6⟩ := and_7 (v >>> (nI 6 &&& nI 31))
    obtain ⟨j15, h15, e15⟩ := and_15 (v >>> (nI 6 &&& nI 31))
    obtain ⟨j10, h10, e10⟩ := and_3 (v >>> (nI 10 &&& nI 31))
    have m3 : j3 % 6 < 6 := Nat.mod_lt _ (by omega)
    have m6 : j6 % n < n := Nat.mod_lt _ (by omega)
    have er3 : nI j3 - nI j3 / nI 6 * nI 6 = nI (j3 % 6) := n_rem (by omega) (by omega) (by omega)
    have er6 : nI j6 - nI j6 / nI n * nI n = nI (j6 % n) := n_rem (by omega) (by omega) (by omega)
    have q0 := nx (0, j3 % 6, j6 % n, 0) (Or.inl ⟨Or.inl rfl, show j3 % 6 ≤ 99 by omega, show j6 % n < 16 by omega, rfl⟩)
    have q1 := nx (1, j3 % 6, j6 % n, 0) (Or.inl ⟨Or.inr rfl, show j3 % 6 ≤ 99 by omega, show j6 % n < 16 by omega, rfl⟩)
    by_cases c0 : k = 0
    · subst c0
      simp (disch := first | omega | assumption) only [n_lit, n_gLt, n_gLe, n_gEq, n_gEq2, n_gLe2, n_gLt2, n_m1, n_add, n_mul, n_lt, n_le, n_eq, n_cl, n_in, n_rem, n_mlt, n_mle, n_ltm, n_lem, n_eqm, n_meq, n_bit, n_shl, n_b0, n_b1, n_sub, n_inT, nT, nF, lT, lF, eT, eF, not_false_eq_true, not_true_eq_false, sI_at, sI_c, sI_j, aI_at, aI_c, sL_at, sL_c, sL_j, true_and, and_true, not_true_eq_false, not_false_eq_true, forall_const, true_implies, false_implies, implies_true, if_true, if_false, ite_true, ite_false, Bool.not_eq_true, Bool.not_eq_false, Bool.true_eq_false, Bool.false_eq_true, false_and, and_false, or_true, true_or, false_or, or_false, eN, e7, e3, e6, er3, er6]
      exact q0
    · by_cases c1 : j7 < 2
      · simp (disch := first | omega | assumption) only [n_lit, n_gLt, n_gLe, n_gEq, n_gEq2, n_gLe2, n_gLt2, n_m1, n_add, n_mul, n_lt, n_le, n_eq, n_cl, n_in, n_rem, n_mlt, n_mle, n_ltm, n_lem, n_eqm, n_meq, n_bit, n_shl, n_b0, n_b1, n_sub, n_inT, nT, nF, lT, lF, eT, eF, not_false_eq_true, not_true_eq_false, sI_at, sI_c, sI_j, aI_at, aI_c, sL_at, sL_c, sL_j, true_and, and_true, not_true_eq_false, not_false_eq_true, forall_const, true_implies, false_implies, implies_true, if_true, if_false, ite_true, ite_false, Bool.not_eq_true, Bool.not_eq_false, Bool.true_eq_false, Bool.false_eq_true, false_and, and_false, or_true, true_or, false_or, or_false, eN, e7, e3, e6, er3, er6, c0]
        exact q0
      · by_cases c2 : j7 < 6
        · simp (disch := first | omega | assumption) only [n_lit, n_gLt, n_gLe, n_gEq, n_gEq2, n_gLe2, n_gLt2, n_m1, n_add, n_mul, n_lt, n_le, n_eq, n_cl, n_in, n_rem, n_mlt, n_mle, n_ltm, n_lem, n_eqm, n_meq, n_bit, n_shl, n_b0, n_b1, n_sub, n_inT, nT, nF, lT, lF, eT, eF, not_false_eq_true, not_true_eq_false, sI_at, sI_c, sI_j, aI_at, aI_c, sL_at, sL_c, sL_j, true_and, and_true, not_true_eq_false, not_false_eq_true, forall_const, true_implies, false_implies, implies_true, if_true, if_false, ite_true, ite_false, Bool.not_eq_true, Bool.not_eq_false, Bool.true_eq_false, Bool.false_eq_true, false_and, and_false, or_true, true_or, false_or, or_false, eN, e7, e3, e6, er3, er6, c0]
          exact q1
        · by_cases c3 : m = 0
          · subst c3
            simp (disch := first | omega | assumption) only [n_lit, n_gLt, n_gLe, n_gEq, n_gEq2, n_gLe2, n_gLt2, n_m1, n_add, n_mul, n_lt, n_le, n_eq, n_cl, n_in, n_rem, n_mlt, n_mle, n_ltm, n_lem, n_eqm, n_meq, n_bit, n_shl, n_b0, n_b1, n_sub, n_inT, nT, nF, lT, lF, eT, eF, not_false_eq_true, not_true_eq_false, sI_at, sI_c, sI_j, aI_at, aI_c, sL_at, sL_c, sL_j, true_and, and_true, not_true_eq_false, not_false_eq_true, forall_const, true_implies, false_implies, implies_true, if_true, if_false, ite_true, ite_false, Bool.not_eq_true, Bool.not_eq_false, Bool.true_eq_false, Bool.false_eq_true, false_and, and_false, or_true, true_or, false_or, or_false, eN, e7, e3, e6, er3, er6, c0]
            exact q1
          · have mm : j15 % m < m := Nat.mod_lt _ (by omega)
            have er15 : nI j15 - nI j15 / nI m * nI m = nI (j15 % m) := n_rem (by omega) (by omega) (by omega)
            have q2 := nx (2, j15 % m, j3 % 6, j3 % 6 + j10) (Or.inr ⟨rfl, show j15 % m < 40 by omega, show j3 % 6 ≤ j3 % 6 + j10 by omega, show j3 % 6 + j10 ≤ 99 by omega⟩)
            simp (disch := first | omega | assumption) only [n_lit, n_gLt, n_gLe, n_gEq, n_gEq2, n_gLe2, n_gLt2, n_m1, n_add, n_mul, n_lt, n_le, n_eq, n_cl, n_in, n_rem, n_mlt, n_mle, n_ltm, n_lem, n_eqm, n_meq, n_bit, n_shl, n_b0, n_b1, n_sub, n_inT, nT, nF, lT, lF, eT, eF, not_false_eq_true, not_true_eq_false, sI_at, sI_c, sI_j, aI_at, aI_c, sL_at, sL_c, sL_j, true_and, and_true, not_true_eq_false, not_false_eq_true, forall_const, true_implies, false_implies, implies_true, if_true, if_false, ite_true, ite_false, Bool.not_eq_true, Bool.not_eq_false, Bool.true_eq_false, Bool.false_eq_true, false_and, and_false, or_true, true_or, false_or, or_false, eN, e7, e3, e15, e10, er3, er15, c0, c3]
            exact q2
theorem c_LdrawT {b : Bool} {I : MI} {L : ML} (hs : I 100001 0 = nI Ls) (hL : Ls ≤ 260) (hn : 1 ≤ n ∧ n ≤ 8) (hm : m ≤ 12) (hA : A ≤ 4) (hnn : 187 ≤ nn ∧ nn < 1000) (hbc : 1 ≤ bc) (hbs : 17 ≤ bs) (hK : ∀ b' I' L', (∀ a, a ≠ nn → a ≠ 200000 + nn → I' a = I a) → taE nn A A I' → K 4 nn b' (nn + 1) I' L') : NW nn bc bs m_L_drawTelling 0 [vr 3 0, vi (nI 9), vi (nI A), vi (nI n), vi (nI m), un, un, un, un, un, un] [] b I L (nwR K) := by
  refine v_L_drawTelling_0 ?_
  simp (disch := first | omega | assumption) only [n_lit, n_gLt, n_gLe, n_gEq, n_gEq2, n_gLe2, n_gLt2, n_m1, n_add, n_mul, n_lt, n_le, n_eq, n_cl, n_in, n_rem, n_mlt, n_mle, n_ltm, n_lem, n_eqm, n_meq, n_bit, n_shl, n_b0, n_b1, n_sub, n_inT, nT, nF, lT, lF, eT, eF, not_false_eq_true, not_true_eq_false, sI_at, sI_c, sI_j, aI_at, aI_c, sL_at, sL_c, sL_j, true_and, and_true, not_true_eq_false, not_false_eq_true, forall_const, true_implies, false_implies, implies_true, if_true, if_false, ite_true, ite_false, Bool.not_eq_true, Bool.not_eq_false, Bool.true_eq_false, Bool.false_eq_true, false_and, and_false, or_true, true_or, false_or, or_false]
  refine NW_newd (hf := rfl) ⟨by rw [show (0 : Int32) = nI 0 from rfl, n_lt (by omega) (by omega)]; omega, by rw [n_cl (by omega)]; omega⟩ hbc (by rw [n_cl (by omega)]; omega) ?_
  refine v_L_drawTelling_7 ?_
  have fr : ∀ a, a ≠ nn → a ≠ 200000 + nn → (sI (aI I nn (fun _ => 0)) (200000 + nn) 0 (nI (1 + 4 * A))) a = I a := fun a h1 h2 => by rw [sI_c h2, aI_o h1]
  have eR : (sI (aI I nn (fun _ => 0)) (200000 + nn) 0 (nI (1 + 4 * A))) (200000 + nn) 0 = nI (1 + 4 * A) := by rw [sI_at]
  generalize hI2 : (sI (aI I nn (fun _ => 0)) (200000 + nn) 0 (nI (1 + 4 * A))) = I2 at *
  simp (disch := first | omega | assumption) only [n_lit, n_gLt, n_gLe, n_gEq, n_gEq2, n_gLe2, n_gLt2, n_m1, n_add, n_mul, n_lt, n_le, n_eq, n_cl, n_in, n_rem, n_mlt, n_mle, n_ltm, n_lem, n_eqm, n_meq, n_bit, n_shl, n_b0, n_b1, n_sub, n_inT, nT, nF, lT, lF, eT, eF, not_false_eq_true, not_true_eq_false, sI_at, sI_c, sI_j, aI_at, aI_c, sL_at, sL_c, sL_j, true_and, and_true, not_true_eq_false, not_false_eq_true, forall_const, true_implies, false_implies, implies_true, if_true, if_false, ite_true, ite_false, Bool.not_eq_true, Bool.not_eq_false, Bool.true_eq_false, Bool.false_eq_true, false_and, and_false, or_true, true_or, false_or, or_false, eR]
  refine dt_acts hL hn hm hA hnn (sI I2 nn 0 (nI A)) (fun b' I' L' f h => hK b' I' L' (fun a h1 h2 => ?_) h) A 0 (Nat.zero_add _) b _ _ ?_ (fun _ _ => rfl) ⟨?_, ?_, fun i hi => absurd hi (Nat.not_lt_zero _)⟩
  · rw [f a h1, sI_c h1]
    exact fr a h1 h2
  · rw [sI_c (by omega), fr _ (by omega) (by omega)]
    exact hs
  · rw [sI_at]
  · rw [sI_c (by omega)]
    exact eR
end DT
