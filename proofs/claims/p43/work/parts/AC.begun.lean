/-! THE LAW: those begun lead to their holders -/
theorem cntB_two {f : Nat → Bool} {p q : Nat} (h : ∀ i, f i = true → i = p ∨ i = q) : ∀ n, cntB f n ≤ (if p < n then 1 else 0) + (if q < n then 1 else 0)
  | 0 => Nat.zero_le _
  | n + 1 => by
    have ih := cntB_two h n
    show cntB f n + (f n).toNat ≤ _
    cases c : f n with
    | false =>
      show cntB f n + 0 ≤ _
      repeat' split
      all_goals (repeat' split at ih)
      all_goals omega
    | true =>
      show cntB f n + 1 ≤ _
      rcases h n c with e | e
      · subst e
        rw [if_neg (Nat.lt_irrefl n)] at ih
        rw [if_pos (Nat.lt_succ_self n)]
        repeat' split
        all_goals (repeat' split at ih)
        all_goals omega
      · subst e
        rw [if_neg (Nat.lt_irrefl n)] at ih
        rw [if_pos (Nat.lt_succ_self n)]
        repeat' split
        all_goals (repeat' split at ih)
        all_goals omega
theorem cntB_ge1 {f : Nat → Bool} {p : Nat} (h : f p = true) : ∀ n, p < n → 1 ≤ cntB f n
  | n + 1, hp => by
    show 1 ≤ cntB f n + (f n).toNat
    by_cases e : p = n
    · rw [← e, h]
      show 1 ≤ _ + 1
      omega
    · have := cntB_ge1 h n (by omega)
      omega
theorem cntB_ge2 {f : Nat → Bool} {p q : Nat} (h : f p = true) (g : f q = true) (hpq : p < q) : ∀ n, q < n → 2 ≤ cntB f n
  | n + 1, hq => by
    show 2 ≤ cntB f n + (f n).toNat
    by_cases e : q = n
    · have := cntB_ge1 h n (by omega)
      rw [← e, g]
      rw [← e] at this
      show 2 ≤ _ + 1
      omega
    · have := cntB_ge2 h g hpq n (by omega)
      omega
/-- the acts in a row, of whatever length -/
def rwP (r : Nat) (l : List Act) (I : MI) : Prop := I r 0 = nI l.length ∧ ∀ k q, l[k]? = some q → I r (1 + 4 * k) = nI q.1 ∧ I r (1 + 4 * k + 1) = nI q.2.1 ∧ I r (1 + 4 * k + 2) = nI q.2.2.1 ∧ I r (1 + 4 * k + 3) = if q.1 = 2 then nI q.2.2.2 else nM
theorem rwP_fr {r : Nat} {l : List Act} {I I' : MI} (h1 : I' r = I r) (k : rwP r l I) : rwP r l I' := by
  unfold rwP
  rw [h1]
  exact k
theorem rwP_snoc {r : Nat} {l : List Act} {q : Act} {I I' : MI} (h : rwP r l I) (e0 : I' r 0 = nI (l.length + 1)) (el : ∀ j, 1 ≤ j → j < 1 + 4 * l.length → I' r j = I r j) (e1 : I' r (1 + 4 * l.length) = nI q.1) (e2 : I' r (1 + 4 * l.length + 1) = nI q.2.1) (e3 : I' r (1 + 4 * l.length + 2) = nI q.2.2.1) (e4 : I' r (1 + 4 * l.length + 3) = if q.1 = 2 then nI q.2.2.2 else nM) : rwP r (l ++ [q]) I' := by
  obtain ⟨-, h5⟩ := h
  have len : (l ++ [q]).length = l.length + 1 := by simp
  refine ⟨by rw [len]; exact e0, fun k z hk => ?_⟩
  by_cases c : k < l.length
  · rw [List.getElem?_append_left c] at hk
    rw [el _ (by omega) (by omega), el _ (by omega) (by omega), el _ (by omega) (by omega), el _ (by omega) (by omega)]
    exact h5 k z hk
  · have hl := (List.getElem?_eq_some_iff.mp hk).1
    obtain rfl : k = l.length := by omega
    have : z = q := by
      rw [List.getElem?_append_right (Nat.le_refl _), Nat.sub_self] at hk
      exact (Option.some.inj hk).symm
    subst this
    exact ⟨e1, e2, e3, e4⟩
def wls (l : List Act) : List Act := l.filter (fun q => decide (q.1 = 2))
theorem wls_snoc {T : List Act} {k : Nat} {q : Act} (h : T[k]? = some q) : wls (T.take (k + 1)) = if q.1 = 2 then wls (T.take k) ++ [q] else wls (T.take k) := by
  unfold wls
  rw [List.take_add_one, h, List.filter_append]
  split
  · rename_i c
    show _ ++ List.filter _ [q] = _
    rw [List.filter_cons_of_pos (by rw [decide_eq_true c])]
    rfl
  · rename_i c
    show _ ++ List.filter _ [q] = _
    rw [List.filter_cons_of_neg (by rw [decide_eq_false c]; exact Bool.false_ne_true)]
    show _ ++ [] = _
    rw [List.append_nil]
theorem wls_len (l : List Act) : (wls l).length ≤ l.length := List.length_filter_le _ _
section BG
variable {V : Vil} {T : List Act} {B : Bk} {nn bc bs d x : Nat} {K : Int32 → Bool → Nat → MI → ML → Prop}
/-- the what-ifs gone through, the set found -/
theorem bn_found {h : Int32} {cnt : Nat} (hc : cnt < 1000) (hc0 : 0 < cnt) {p1 p2 : Nat} (hV : Vok V) (h1 : p1 < V.n) (h2 : p2 < V.n) (hx : x = 2 ^ p1 ||| 2 ^ p2) (hx2 : x < 2 ^ V.n) (hd : d ≤ 99) (hnv : 0 < B.nv) (hnt : 0 < B.nt) (en : (B.vl 0).n = V.n) (hh : inR h (2 ^ (B.vl 0).n) = true) (hz : p1 = p2 → ∀ q, q < V.n → (hold (wX B 0 (bgX (2 ^ p1).testBit)) d q ^^ bt h q) = false) (hK : ∀ b' I' L', K (nI 1) b' nn I' L') : ∀ m k, k + m = cnt → ∀ b I L, LwS B I → NW nn bc bs m_L_begun 333 [vr 21 0, un, un, un, un, vi (nI d), un, vi (nI x), un, un, un, vi h, vi (nI cnt), vi (nI 1), vi (nI k)] [] b I L (nwI K) := by
  obtain ⟨⟨n1, n8⟩, -⟩ := id hV
  intro m
  induction m with
  | zero =>
    intro k hk b I L hs
    obtain rfl : k = cnt := by omega
    refine v_L_begun_333 ?_
    simp (disch := first | omega | assumption) only [n_lit, n_gLt, n_gLe, n_gEq, n_gEq2, n_gLe2, n_gLt2, n_m1, n_add, n_mul, n_lt, n_le, n_eq, n_cl, n_in, n_rem, n_mlt, n_mle, n_ltm, n_lem, n_eqm, n_meq, n_bit, n_shl, n_b0, n_b1, n_sub, n_inT, nT, nF, lT, lF, eT, eF, not_false_eq_true, not_true_eq_false, sI_at, sI_c, sI_j, aI_at, aI_c, sL_at, sL_c, sL_j, true_and, and_true, not_true_eq_false, not_false_eq_true, forall_const, true_implies, false_implies, implies_true, if_true, if_false, ite_true, ite_false, Bool.not_eq_true, Bool.not_eq_false, Bool.true_eq_false, Bool.false_eq_true, false_and, and_false, or_true, true_or, false_or, or_false]
    refine c_bit (n := V.n) (by omega) hx2 ?_
    have hcn := cntB_le x.testBit V.n
    by_cases c : 1 < cntB x.testBit V.n
    · simp (disch := first | omega | assumption) only [n_lit, n_gLt, n_gLe, n_gEq, n_gEq2, n_gLe2, n_gLt2, n_m1, n_add, n_mul, n_lt, n_le, n_eq, n_cl, n_in, n_rem, n_mlt, n_mle, n_ltm, n_lem, n_eqm, n_meq, n_bit, n_shl, n_b0, n_b1, n_sub, n_inT, nT, nF, lT, lF, eT, eF, not_false_eq_true, not_true_eq_false, sI_at, sI_c, sI_j, aI_at, aI_c, sL_at, sL_c, sL_j, true_and, and_true, not_true_eq_false, not_false_eq_true, forall_const, true_implies, false_implies, implies_true, if_true, if_false, ite_true, ite_false, Bool.not_eq_true, Bool.not_eq_false, Bool.true_eq_false, Bool.false_eq_true, false_and, and_false, or_true, true_or, false_or, or_false]
      exact hK b I L
    · have e12 : p1 = p2 := by
        have t1 : x.testBit p1 = true := by
          rw [hx, Nat.testBit_or, Nat.testBit_two_pow_self, Bool.true_or]
        have t2 : x.testBit p2 = true := by
          rw [hx, Nat.testBit_or, Nat.testBit_two_pow_self, Bool.or_true]
        rcases Nat.lt_trichotomy p1 p2 with z | z | z
        · exact absurd (cntB_ge2 t1 t2 z V.n h2) (by omega)
        · exact z
        · exact absurd (cntB_ge2 t2 t1 z V.n h1) (by omega)
      simp (disch := first | omega | assumption) only [n_lit, n_gLt, n_gLe, n_gEq, n_gEq2, n_gLe2, n_gLt2, n_m1, n_add, n_mul, n_lt, n_le, n_eq, n_cl, n_in, n_rem, n_mlt, n_mle, n_ltm, n_lem, n_eqm, n_meq, n_bit, n_shl, n_b0, n_b1, n_sub, n_inT, nT, nF, lT, lF, eT, eF, not_false_eq_true, not_true_eq_false, sI_at, sI_c, sI_j, aI_at, aI_c, sL_at, sL_c, sL_j, true_and, and_true, not_true_eq_false, not_false_eq_true, forall_const, true_implies, false_implies, implies_true, if_true, if_false, ite_true, ite_false, Bool.not_eq_true, Bool.not_eq_false, Bool.true_eq_false, Bool.false_eq_true, false_and, and_false, or_true, true_or, false_or, or_false]
      refine q_origin (j := 0) hs.1 hs.2.1 hnv hnt hd hh (fun b' I' L' f => ?_)
      rw [lsN_zero (p := p1) (by rw [en]; exact cntB_zero (hz e12)) (B.vl 0).n (by rw [en]; exact h1)]
      simp (disch := first | omega | assumption) only [n_lit, n_gLt, n_gLe, n_gEq, n_gEq2, n_gLe2, n_gLt2, n_m1, n_add, n_mul, n_lt, n_le, n_eq, n_cl, n_in, n_rem, n_mlt, n_mle, n_ltm, n_lem, n_eqm, n_meq, n_bit, n_shl, n_b0, n_b1, n_sub, n_inT, nT, nF, lT, lF, eT, eF, not_false_eq_true, not_true_eq_false, sI_at, sI_c, sI_j, aI_at, aI_c, sL_at, sL_c, sL_j, true_and, and_true, not_true_eq_false, not_false_eq_true, forall_const, true_implies, false_implies, implies_true, if_true, if_false, ite_true, ite_false, Bool.not_eq_true, Bool.not_eq_false, Bool.true_eq_false, Bool.false_eq_true, false_and, and_false, or_true, true_or, false_or, or_false]
      exact hK b' I' L'
  | succ m ih =>
    intro k hk b I L hs
    refine v_L_begun_333 ?_
    simp (disch := first | omega | assumption) only [n_lit, n_gLt, n_gLe, n_gEq, n_gEq2, n_gLe2, n_gLt2, n_m1, n_add, n_mul, n_lt, n_le, n_eq, n_cl, n_in, n_rem, n_mlt, n_mle, n_ltm, n_lem, n_eqm, n_meq, n_bit, n_shl, n_b0, n_b1, n_sub, n_inT, nT, nF, lT, lF, eT, eF, not_false_eq_true, not_true_eq_false, sI_at, sI_c, sI_j, aI_at, aI_c, sL_at, sL_c, sL_j, true_and, and_true, not_true_eq_false, not_false_eq_true, forall_const, true_implies, false_implies, implies_true, if_true, if_false, ite_true, ite_false, Bool.not_eq_true, Bool.not_eq_false, Bool.true_eq_false, Bool.false_eq_true, false_and, and_false, or_true, true_or, false_or, or_false]
    exact ih (k + 1) (by omega) b I L hs
theorem bn_seek {h : Int32} {cnt k0 : Nat} (hc : cnt < 1000) {p1 p2 : Nat} (hV : Vok V) (h1 : p1 < V.n) (h2 : p2 < V.n) (hx : x = 2 ^ p1 ||| 2 ^ p2) (hx2 : x < 2 ^ V.n) (hd : d ≤ 99) (hnv : 0 < B.nv) (hnt : 0 < B.nt) (en : (B.vl 0).n = V.n) (hh : inR h (2 ^ (B.vl 0).n) = true) (hz : p1 = p2 → ∀ q, q < V.n → (hold (wX B 0 (bgX (2 ^ p1).testBit)) d q ^^ bt h q) = false) (hk0 : k0 < cnt) (hf : bgF (bgQ B 0 d h) (nI k0) (L12 0 (B.vl 0).n) 0 = nI x) (hK : ∀ b' I' L', K (nI 1) b' nn I' L') : ∀ m k, k + m = k0 → ∀ b I L, LwS B I → NW nn bc bs m_L_begun 333 [vr 21 0, un, un, un, un, vi (nI d), un, vi (nI x), un, un, un, vi h, vi (nI cnt), vi (nI 0), vi (nI k)] [] b I L (nwI K) := by
  have nx : ∀ k, k ≤ cnt → ∀ b I L, LwS B I → NW nn bc bs m_L_begun 333 [vr 21 0, un, un, un, un, vi (nI d), un, vi (nI x), un, un, un, vi h, vi (nI cnt), vi (nI 1), vi (nI k)] [] b I L (nwI K) := fun k hk => bn_found hc (by omega) hV h1 h2 hx hx2 hd hnv hnt en hh hz hK (cnt - k) k (by omega)
  intro m
  induction m with
  | zero =>
    intro k hk b I L hs
    obtain rfl : k = k0 := by omega
    refine v_L_begun_333 ?_
    simp (disch := first | omega | assumption) only [n_lit, n_gLt, n_gLe, n_gEq, n_gEq2, n_gLe2, n_gLt2, n_m1, n_add, n_mul, n_lt, n_le, n_eq, n_cl, n_in, n_rem, n_mlt, n_mle, n_ltm, n_lem, n_eqm, n_meq, n_bit, n_shl, n_b0, n_b1, n_sub, n_inT, nT, nF, lT, lF, eT, eF, not_false_eq_true, not_true_eq_false, sI_at, sI_c, sI_j, aI_at, aI_c, sL_at, sL_c, sL_j, true_and, and_true, not_true_eq_false, not_false_eq_true, forall_const, true_implies, false_implies, implies_true, if_true, if_false, ite_true, ite_false, Bool.not_eq_true, Bool.not_eq_false, Bool.true_eq_false, Bool.false_eq_true, false_and, and_false, or_true, true_or, false_or, or_false]
    refine q_begun (j := 0) hs.1 hs.2.1 hnv hnt hd hh (by rw [n_ltm (by omega)]; exact not_false) (fun b' I' L' f => ?_)
    rw [hf]
    simp (disch := first | omega | assumption) only [n_lit, n_gLt, n_gLe, n_gEq, n_gEq2, n_gLe2, n_gLt2, n_m1, n_add, n_mul, n_lt, n_le, n_eq, n_cl, n_in, n_rem, n_mlt, n_mle, n_ltm, n_lem, n_eqm, n_meq, n_bit, n_shl, n_b0, n_b1, n_sub, n_inT, nT, nF, lT, lF, eT, eF, not_false_eq_true, not_true_eq_false, sI_at, sI_c, sI_j, aI_at, aI_c, sL_at, sL_c, sL_j, true_and, and_true, not_true_eq_false, not_false_eq_true, forall_const, true_implies, false_implies, implies_true, if_true, if_false, ite_true, ite_false, Bool.not_eq_true, Bool.not_eq_false, Bool.true_eq_false, Bool.false_eq_true, false_and, and_false, or_true, true_or, false_or, or_false]
    exact nx (k + 1) (by omega) b' I' L' (hs.qf f)
  | succ m ih =>
    intro k hk b I L hs
    refine v_L_begun_333 ?_
    simp (disch := first | omega | assumption) only [n_lit, n_gLt, n_gLe, n_gEq, n_gEq2, n_gLe2, n_gLt2, n_m1, n_add, n_mul, n_lt, n_le, n_eq, n_cl, n_in, n_rem, n_mlt, n_mle, n_ltm, n_lem, n_eqm, n_meq, n_bit, n_shl, n_b0, n_b1, n_sub, n_inT, nT, nF, lT, lF, eT, eF, not_false_eq_true, not_true_eq_false, sI_at, sI_c, sI_j, aI_at, aI_c, sL_at, sL_c, sL_j, true_and, and_true, not_true_eq_false, not_false_eq_true, forall_const, true_implies, false_implies, implies_true, if_true, if_false, ite_true, ite_false, Bool.not_eq_true, Bool.not_eq_false, Bool.true_eq_false, Bool.false_eq_true, false_and, and_false, or_true, true_or, false_or, or_false]
    refine q_begun (j := 0) hs.1 hs.2.1 hnv hnt hd hh (by rw [n_ltm (by omega)]; exact not_false) (fun b' I' L' f => ?_)
    by_cases c : bgF (bgQ B 0 d h) (nI k) (L12 0 (B.vl 0).n) 0 = nI x
    · simp (disch := first | omega | assumption) only [n_lit, n_gLt, n_gLe, n_gEq, n_gEq2, n_gLe2, n_gLt2, n_m1, n_add, n_mul, n_lt, n_le, n_eq, n_cl, n_in, n_rem, n_mlt, n_mle, n_ltm, n_lem, n_eqm, n_meq, n_bit, n_shl, n_b0, n_b1, n_sub, n_inT, nT, nF, lT, lF, eT, eF, not_false_eq_true, not_true_eq_false, sI_at, sI_c, sI_j, aI_at, aI_c, sL_at, sL_c, sL_j, true_and, and_true, not_true_eq_false, not_false_eq_true, forall_const, true_implies, false_implies, implies_true, if_true, if_false, ite_true, ite_false, Bool.not_eq_true, Bool.not_eq_false, Bool.true_eq_false, Bool.false_eq_true, false_and, and_false, or_true, true_or, false_or, or_false, c]
      exact nx (k + 1) (by omega) b' I' L' (hs.qf f)
    · simp (disch := first | omega | assumption) only [n_lit, n_gLt, n_gLe, n_gEq, n_gEq2, n_gLe2, n_gLt2, n_m1, n_add, n_mul, n_lt, n_le, n_eq, n_cl, n_in, n_rem, n_mlt, n_mle, n_ltm, n_lem, n_eqm, n_meq, n_bit, n_shl, n_b0, n_b1, n_sub, n_inT, nT, nF, lT, lF, eT, eF, not_false_eq_true, not_true_eq_false, sI_at, sI_c, sI_j, aI_at, aI_c, sL_at, sL_c, sL_j, true_and, and_true, not_true_eq_false, not_false_eq_true, forall_const, true_implies, false_implies, implies_true, if_true, if_false, ite_true, ite_false, Bool.not_eq_true, Bool.not_eq_false, Bool.true_eq_false, Bool.false_eq_true, false_and, and_false, or_true, true_or, false_or, or_false, c]
      exact ih (k + 1) (by omega) b' I' L' (hs.qf f)
/-- the telling told, its holders asked, those that lead to them -/
theorem bn_end {r : Nat} {p1 p2 : Nat} {b : Bool} {I : MI} {L : ML} (h : LB V T B I) (hV : Vok V) (hT : T.length ≤ 4) (hA : ∀ q, q ∈ T → Aok q) (hnv : 1 ≤ B.nv) (hnt : 1 ≤ B.nt) (hd : d ≤ 15) (h1 : p1 < V.n) (h2 : p2 < V.n) (hx : x = 2 ^ p1 ||| 2 ^ p2) (hx2 : x < 2 ^ V.n) (hr : 189 ≤ r) (hP : taP r (dnL 0 0 V.n x ++ wls T) I) (hl : (dnL 0 0 V.n x).length ≤ 2) {k8 k9 : Nat} (hK : ∀ b' I' L', K (nI 1) b' nn I' L') : NW nn bc bs m_L_begun 230 [vr 21 0, vr 164 186, un, un, un, vi (nI d), un, vi (nI x), vr 172 k8, vr 4 k9, vr 4 r, vi (nI (4 * (dnL 0 0 V.n x ++ wls T).length)), un, un, un] [] b I L (nwI K) := by
  obtain ⟨⟨n1, n8⟩, m12, -⟩ := id hV
  obtain ⟨N, N1, N2, eN⟩ := hP.2.1
  have e0 := hP.1
  have wl := wls_len T
  have len : (dnL 0 0 V.n x ++ wls T).length ≤ 6 := by rw [List.length_append]; omega
  have hw : ∀ q, q ∈ wls T → q.1 = 2 := fun q hq => by
    have := (List.mem_filter.mp hq).2
    exact of_decide_eq_true this
  have hAll : ∀ q, q ∈ dnL 0 0 V.n x ++ wls T → Aok q := fun q hq => by
    rcases List.mem_append.mp hq with hq | hq
    · obtain ⟨p, hp, rfl⟩ := List.mem_map.mp hq
      have := List.mem_range.mp (List.mem_filter.mp hp).1
      exact Or.inl ⟨Or.inl rfl, show 0 ≤ 99 by omega, show p < 16 by omega, rfl⟩
    · exact hA q (List.mem_filter.mp hq).1
  refine v_L_begun_230 ?_
  simp (disch := first | omega | assumption) only [n_lit, n_gLt, n_gLe, n_gEq, n_gEq2, n_gLe2, n_gLt2, n_m1, n_add, n_mul, n_lt, n_le, n_eq, n_cl, n_in, n_rem, n_mlt, n_mle, n_ltm, n_lem, n_eqm, n_meq, n_bit, n_shl, n_b0, n_b1, n_sub, n_inT, nT, nF, lT, lF, eT, eF, not_false_eq_true, not_true_eq_false, sI_at, sI_c, sI_j, aI_at, aI_c, sL_at, sL_c, sL_j, true_and, and_true, not_true_eq_false, not_false_eq_true, forall_const, true_implies, false_implies, implies_true, if_true, if_false, ite_true, ite_false, Bool.not_eq_true, Bool.not_eq_false, Bool.true_eq_false, Bool.false_eq_true, false_and, and_false, or_true, true_or, false_or, or_false, e0, eN]
  refine c_Ltelling (k := 0) h.1 (by omega) hP hAll (by omega) (Or.inr ⟨rfl, by omega⟩) rfl (fun b1 I1 L1 B1 g1 g2 g3 g4 g5 f1 => ?_)
  have nv1 : B1.nv = B.nv := g2
  have nt1 : B1.nt = B.nt := by rw [g3]; exact if_neg (by omega)
  have ev : B1.vl 0 = cV V := by rw [g4]; exact h.2.1
  have en : (B1.vl 0).n = V.n := by rw [ev]; rfl
  have et : B1.tl 0 = tlL (dnL 0 0 V.n x ++ wls T) telN := by rw [g5]; exact if_pos rfl
  have vok := g1.1.2.2.1 0 (by omega)
  have hhd : hdI (wJ B1 0) d = hdI (wX B1 0 (bgX x.testBit)) d := by
    unfold wJ wX
    rw [et]
    exact bg_hdI (B1.vl 0) _ (wls T) (fun t ht => (vok.2.2.2.2.2.2 t ht).1) hx2 hw d
  simp (disch := first | omega | assumption) only [n_lit, n_gLt, n_gLe, n_gEq, n_gEq2, n_gLe2, n_gLt2, n_m1, n_add, n_mul, n_lt, n_le, n_eq, n_cl, n_in, n_rem, n_mlt, n_mle, n_ltm, n_lem, n_eqm, n_meq, n_bit, n_shl, n_b0, n_b1, n_sub, n_inT, nT, nF, lT, lF, eT, eF, not_false_eq_true, not_true_eq_false, sI_at, sI_c, sI_j, aI_at, aI_c, sL_at, sL_c, sL_j, true_and, and_true, not_true_eq_false, not_false_eq_true, forall_const, true_implies, false_implies, implies_true, if_true, if_false, ite_true, ite_false, Bool.not_eq_true, Bool.not_eq_false, Bool.true_eq_false, Bool.false_eq_true, false_and, and_false, or_true, true_or, false_or, or_false]
  refine q_holders (j := 0) g1.1 g1.2.1 (by omega) (by omega) (by omega) (by decide) (fun b2 I2 L2 f2 => ?_)
  have h2' := g1.qf f2
  have e2 : (if (0 : Nat) = 0 then hdI (wJ B1 0) d else dnI (wJ B1 0) d) = hdI (wJ B1 0) d := if_pos rfl
  rw [e2]
  obtain ⟨hh, ehh⟩ : ∃ hh, hh = hdI (wJ B1 0) d := ⟨_, rfl⟩
  rw [← ehh]
  have hbt : ∀ i, bt hh i = (decide (i < V.n) && hold (wJ B1 0) d i) := fun i => by
    rw [ehh, ← en]
    exact bI_bit _ (show (B1.vl 0).n ≤ 32 by omega)
  have hin : inR hh (2 ^ (B1.vl 0).n) = true := by
    rw [en]
    exact (inR_2p (by omega)).mpr (fun i hi _ => by rw [hbt, decide_eq_false (by omega), Bool.false_and])
  have hPx : bgQ B1 0 d hh x = true := by
    unfold bgQ
    rw [← hhd, ← ehh]
    exact decide_eq_true rfl
  have hlen : (L12 0 (B1.vl 0).n).length < 1000 := by
    have := L12_len (B1.vl 0).n 0 (by omega)
    omega
  have hmem : x ∈ L12 0 (B1.vl 0).n := by
    rw [hx, en]
    exact L12_or h1 h2
  obtain ⟨k0, -, k02, k03⟩ := bgF_at hPx (L12 0 (B1.vl 0).n) 0 (by omega) hmem
  have hcl := cntL_le (P := bgQ B1 0 d hh) (L12 0 (B1.vl 0).n)
  refine q_begun (j := 0) h2'.1 h2'.2.1 (by omega) (by omega) (by omega) hin (show ¬ nM < nM by decide) (fun b3 I3 L3 f3 => ?_)
  rw [bgF_n _ _ (by omega), Nat.zero_add]
  rw [Nat.zero_add] at k02
  refine bn_seek (k0 := k0) (p1 := p1) (p2 := p2) (by omega) hV h1 h2 hx hx2 (by omega) (by omega) (by omega) en hin (fun e12 q hq => ?_) k02 k03 hK k0 0 (Nat.zero_add _) b3 I3 L3 (h2'.qf f3)
  have ex : x = 2 ^ p1 := by rw [hx, ← e12, Nat.or_self]
  have e4 : bt hh q = hold (wX B1 0 (bgX (2 ^ p1).testBit)) d q := by
    rw [ehh, hhd, ex]
    have : bt (hdI (wX B1 0 (bgX (2 ^ p1).testBit)) d) q = (decide (q < (B1.vl 0).n) && hold (wX B1 0 (bgX (2 ^ p1).testBit)) d q) := bI_bit _ (show (B1.vl 0).n ≤ 32 by omega)
    rw [this, decide_eq_true (by omega), Bool.true_and]
  rw [e4, Bool.xor_self]
theorem bn_join {r k8 k9 : Nat} {p1 p2 : Nat} {b : Bool} {L : ML} (hV : Vok V) (hT : T.length ≤ 4) (hA : ∀ q, q ∈ T → Aok q) (hnv : 1 ≤ B.nv) (hnt : 1 ≤ B.nt) (hd : d ≤ 15) (h1 : p1 < V.n) (h2 : p2 < V.n) (hx : x = 2 ^ p1 ||| 2 ^ p2) (hx2 : x < 2 ^ V.n) (hr : 189 ≤ r ∧ r < 1000) (h89 : 189 ≤ k8 ∧ k8 < r ∧ 189 ≤ k9 ∧ k9 < r) (hl : (dnL 0 0 V.n x).length ≤ 2) {N9 : Nat} (hN9 : 1 + 4 * (wls T).length ≤ N9 ∧ N9 < 1000) (hK : ∀ b' I' L', K (nI 1) b' nn I' L') : ∀ m j, j + m = 4 * (dnL 0 0 V.n x ++ wls T).length → ∀ I, LB V T B I → rwP k8 (dnL 0 0 V.n x) I → rwP k9 (wls T) I → I (200000 + k9) 0 = nI N9 → I (200000 + r) 0 = nI (1 + 4 * (dnL 0 0 V.n x ++ wls T).length) → I r 0 = nI (dnL 0 0 V.n x ++ wls T).length → (∀ i, i < j → I r (1 + i) = if i < 4 * (dnL 0 0 V.n x).length then I k8 (1 + i) else I k9 (1 + i - 4 * (dnL 0 0 V.n x).length)) → NW nn bc bs m_L_begun 230 [vr 21 0, vr 164 186, un, un, un, vi (nI d), un, vi (nI x), vr 172 k8, vr 4 k9, vr 4 r, vi (nI j), un, un, un] [] b I L (nwI K) := by
  have wl := wls_len T
  have la : (dnL 0 0 V.n x ++ wls T).length = (dnL 0 0 V.n x).length + (wls T).length := List.length_append
  intro m
  induction m with
  | zero =>
    intro j hj I h g8 g9 gN gR g0 gi
    obtain rfl : j = 4 * (dnL 0 0 V.n x ++ wls T).length := by omega
    refine bn_end h hV hT hA hnv hnt hd h1 h2 hx hx2 hr.1 ⟨g0, ⟨_, Nat.le_refl _, by omega, gR⟩, fun k q hk => ?_⟩ hl hK
    have hkl := (List.getElem?_eq_some_iff.mp hk).1
    by_cases c : k < (dnL 0 0 V.n x).length
    · rw [List.getElem?_append_left c] at hk
      rw [show 1 + 4 * k + 1 = 1 + (4 * k + 1) by omega, show 1 + 4 * k + 2 = 1 + (4 * k + 2) by omega, show 1 + 4 * k + 3 = 1 + (4 * k + 3) by omega, gi (4 * k) (by omega), gi (4 * k + 1) (by omega), gi (4 * k + 2) (by omega), gi (4 * k + 3) (by omega), if_pos (by omega), if_pos (by omega), if_pos (by omega), if_pos (by omega)]
      exact g8.2 k q hk
    · rw [List.getElem?_append_right (by omega)] at hk
      rw [show 1 + 4 * k + 1 = 1 + (4 * k + 1) by omega, show 1 + 4 * k + 2 = 1 + (4 * k + 2) by omega, show 1 + 4 * k + 3 = 1 + (4 * k + 3) by omega, gi (4 * k) (by omega), gi (4 * k + 1) (by omega), gi (4 * k + 2) (by omega), gi (4 * k + 3) (by omega), if_neg (by omega), if_neg (by omega), if_neg (by omega), if_neg (by omega)]
      have := g9.2 _ q hk
      rw [show 1 + 4 * k - 4 * (dnL 0 0 V.n x).length = 1 + 4 * (k - (dnL 0 0 V.n x).length) by omega, show 1 + (4 * k + 1) - 4 * (dnL 0 0 V.n x).length = 1 + 4 * (k - (dnL 0 0 V.n x).length) + 1 by omega, show 1 + (4 * k + 2) - 4 * (dnL 0 0 V.n x).length = 1 + 4 * (k - (dnL 0 0 V.n x).length) + 2 by omega, show 1 + (4 * k + 3) - 4 * (dnL 0 0 V.n x).length = 1 + 4 * (k - (dnL 0 0 V.n x).length) + 3 by omega]
      exact this
  | succ m ih =>
    intro j hj I h g8 g9 gN gR g0 gi
    have e8 := g8.1
    have step : ∀ v, (v = if j < 4 * (dnL 0 0 V.n x).length then I k8 (1 + j) else I k9 (1 + j - 4 * (dnL 0 0 V.n x).length)) → NW nn bc bs m_L_begun 230 [vr 21 0, vr 164 186, un, un, un, vi (nI d), un, vi (nI x), vr 172 k8, vr 4 k9, vr 4 r, vi (nI (j + 1)), un, un, un] [] b (sI I r (1 + j) v) L (nwI K) := fun v hv => by
      refine ih (j + 1) (by omega) _ (h.fr (h.1.fr (fun a ha => sI_c (by omega))) rfl rfl (fun a ha => sI_c (by omega))) (rwP_fr (sI_c (by omega)) g8) (rwP_fr (sI_c (by omega)) g9) ?_ ?_ ?_ (fun i hi => ?_)
      · rw [sI_c (by omega)]
        exact gN
      · rw [sI_c (by omega)]
        exact gR
      · rw [sI_j (by omega)]
        exact g0
      · rw [sI_c (a := k8) (by omega), sI_c (a := k9) (by omega)]
        by_cases e : i = j
        · rw [e, sI_at]
          exact hv
        · rw [sI_j (by omega)]
          exact gi i (by omega)
    refine v_L_begun_230 ?_
    by_cases c : j < 4 * (dnL 0 0 V.n x).length
    · simp (disch := first | omega | assumption) only [n_lit, n_gLt, n_gLe, n_gEq, n_gEq2, n_gLe2, n_gLt2, n_m1, n_add, n_mul, n_lt, n_le, n_eq, n_cl, n_in, n_rem, n_mlt, n_mle, n_ltm, n_lem, n_eqm, n_meq, n_bit, n_shl, n_b0, n_b1, n_sub, n_inT, nT, nF, lT, lF, eT, eF, not_false_eq_true, not_true_eq_false, sI_at, sI_c, sI_j, aI_at, aI_c, sL_at, sL_c, sL_j, true_and, and_true, not_true_eq_false, not_false_eq_true, forall_const, true_implies, false_implies, implies_true, if_true, if_false, ite_true, ite_false, Bool.not_eq_true, Bool.not_eq_false, Bool.true_eq_false, Bool.false_eq_true, false_and, and_false, or_true, true_or, false_or, or_false, g0, gR, e8, gN]
      exact step _ (if_pos c).symm
    · simp (disch := first | omega | assumption) only [n_lit, n_gLt, n_gLe, n_gEq, n_gEq2, n_gLe2, n_gLt2, n_m1, n_add, n_mul, n_lt, n_le, n_eq, n_cl, n_in, n_rem, n_mlt, n_mle, n_ltm, n_lem, n_eqm, n_meq, n_bit, n_shl, n_b0, n_b1, n_sub, n_inT, nT, nF, lT, lF, eT, eF, not_false_eq_true, not_true_eq_false, sI_at, sI_c, sI_j, aI_at, aI_c, sL_at, sL_c, sL_j, true_and, and_true, not_true_eq_false, not_false_eq_true, forall_const, true_implies, false_implies, implies_true, if_true, if_false, ite_true, ite_false, Bool.not_eq_true, Bool.not_eq_false, Bool.true_eq_false, Bool.false_eq_true, false_and, and_false, or_true, true_or, false_or, or_false, g0, gR, e8, gN]
      exact step _ (if_neg c).symm
theorem bn_walls {k8 k9 : Nat} {p1 p2 : Nat} {b : Bool} {L : ML} (hV : Vok V) (hT : T.length ≤ 4) (hA : ∀ q, q ∈ T → Aok q) (hnv : 1 ≤ B.nv) (hnt : 1 ≤ B.nt) (hd : d ≤ 15) (h1 : p1 < V.n) (h2 : p2 < V.n) (hx : x = 2 ^ p1 ||| 2 ^ p2) (hx2 : x < 2 ^ V.n) (hr : 189 ≤ nn ∧ nn < 1000) (h89 : 189 ≤ k8 ∧ k8 < nn ∧ 189 ≤ k9 ∧ k9 < nn ∧ k8 ≠ k9) (hl : (dnL 0 0 V.n x).length ≤ 2) (hbc : 1 ≤ bc) (hbs : 25 ≤ bs) (hK : ∀ b' n' I' L', K (nI 1) b' n' I' L') : ∀ m k, k + m = T.length → ∀ I, LB V T B I → rwP k8 (dnL 0 0 V.n x) I → rwP k9 (wls (T.take k)) I → I (200000 + k9) 0 = nI (1 + 4 * T.length) → NW nn bc bs m_L_begun 123 [vr 21 0, vr 164 186, un, vr 4 188, un, vi (nI d), un, vi (nI x), vr 172 k8, vr 4 k9, vi (nI k), un, un, un, un] [] b I L (nwI K) := by
  have wl := wls_len T
  intro m
  induction m with
  | zero =>
    intro k hk I h g8 g9 gN
    obtain rfl : k = T.length := by omega
    rw [List.take_length] at g9
    have e0 : I 188 0 = nI T.length := h.2.2.2.2.1.1
    have eL := h.2.2.2.2.2
    have e8 := g8.1
    have e9 := g9.1
    refine v_L_begun_123 ?_
    simp (disch := first | omega | assumption) only [n_lit, n_gLt, n_gLe, n_gEq, n_gEq2, n_gLe2, n_gLt2, n_m1, n_add, n_mul, n_lt, n_le, n_eq, n_cl, n_in, n_rem, n_mlt, n_mle, n_ltm, n_lem, n_eqm, n_meq, n_bit, n_shl, n_b0, n_b1, n_sub, n_inT, nT, nF, lT, lF, eT, eF, not_false_eq_true, not_true_eq_false, sI_at, sI_c, sI_j, aI_at, aI_c, sL_at, sL_c, sL_j, true_and, and_true, not_true_eq_false, not_false_eq_true, forall_const, true_implies, false_implies, implies_true, if_true, if_false, ite_true, ite_false, Bool.not_eq_true, Bool.not_eq_false, Bool.true_eq_false, Bool.false_eq_true, false_and, and_false, or_true, true_or, false_or, or_false, e0, eL, e8, e9, gN]
    refine NW_newd (hf := rfl) ⟨by rw [show (0 : Int32) = nI 0 from rfl, n_lt (by omega) (by omega)]; omega, by rw [n_cl (by omega)]; omega⟩ hbc (by rw [n_cl (by omega)]; omega) ?_
    refine v_L_begun_212 ?_
    have fr : ∀ a, a ≠ nn → a ≠ 200000 + nn → (sI (aI I nn (fun _ => 0)) (200000 + nn) 0 (nI (1 + 4 * ((dnL 0 0 V.n x).length + (wls T).length)))) a = I a := fun a h1 h2 => by rw [sI_c h2, aI_o h1]
    have e8' : (sI (aI I nn (fun _ => 0)) (200000 + nn) 0 (nI (1 + 4 * ((dnL 0 0 V.n x).length + (wls T).length)))) k8 0 = nI (dnL 0 0 V.n x).length := by rw [fr k8 (by omega) (by omega)]; exact e8
    have e9' : (sI (aI I nn (fun _ => 0)) (200000 + nn) 0 (nI (1 + 4 * ((dnL 0 0 V.n x).length + (wls T).length)))) k9 0 = nI (wls T).length := by rw [fr k9 (by omega) (by omega)]; exact e9
    have gN' : (sI (aI I nn (fun _ => 0)) (200000 + nn) 0 (nI (1 + 4 * ((dnL 0 0 V.n x).length + (wls T).length)))) (200000 + k9) 0 = nI (1 + 4 * T.length) := by rw [fr _ (by omega) (by omega)]; exact gN
    have gR' : (sI (aI I nn (fun _ => 0)) (200000 + nn) 0 (nI (1 + 4 * ((dnL 0 0 V.n x).length + (wls T).length)))) (200000 + nn) 0 = nI (1 + 4 * ((dnL 0 0 V.n x).length + (wls T).length)) := by rw [sI_at]
    generalize hI2 : (sI (aI I nn (fun _ => 0)) (200000 + nn) 0 (nI (1 + 4 * ((dnL 0 0 V.n x).length + (wls T).length)))) = I2 at *
    simp (disch := first | omega | assumption) only [n_lit, n_gLt, n_gLe, n_gEq, n_gEq2, n_gLe2, n_gLt2, n_m1, n_add, n_mul, n_lt, n_le, n_eq, n_cl, n_in, n_rem, n_mlt, n_mle, n_ltm, n_lem, n_eqm, n_meq, n_bit, n_shl, n_b0, n_b1, n_sub, n_inT, nT, nF, lT, lF, eT, eF, not_false_eq_true, not_true_eq_false, sI_at, sI_c, sI_j, aI_at, aI_c, sL_at, sL_c, sL_j, true_and, and_true, not_true_eq_false, not_false_eq_true, forall_const, true_implies, false_implies, implies_true, if_true, if_false, ite_true, ite_false, Bool.not_eq_true, Bool.not_eq_false, Bool.true_eq_false, Bool.false_eq_true, false_and, and_false, or_true, true_or, false_or, or_false, e8', e9', gN', gR']
    have la : (dnL 0 0 V.n x ++ wls T).length = (dnL 0 0 V.n x).length + (wls T).length := List.length_append
    have fr2 : ∀ a, a ≠ nn → a ≠ 200000 + nn → (sI I2 nn 0 (nI ((dnL 0 0 V.n x).length + (wls T).length))) a = I a := fun a h1 h2 => by rw [sI_c h1]; exact fr a h1 h2
    refine bn_join (r := nn) (k8 := k8) (k9 := k9) (N9 := 1 + 4 * T.length) hV hT hA hnv hnt hd h1 h2 hx hx2 hr ⟨h89.1, h89.2.1, h89.2.2.1, h89.2.2.2.1⟩ hl ⟨by omega, by omega⟩ (fun b' I' L' => hK b' _ I' L') _ 0 (Nat.zero_add _) _ ?_ (rwP_fr (fr2 _ (by omega) (by omega)) g8) (rwP_fr (fr2 _ (by omega) (by omega)) g9) ?_ ?_ ?_ (fun i hi => absurd hi (Nat.not_lt_zero _))
    · exact h.fr (h.1.fr (fun a ha => fr2 a (by omega) (by omega))) rfl rfl (fun a ha => fr2 a (by omega) (by omega))
    · rw [fr2 _ (by omega) (by omega)]
      exact gN
    · rw [sI_c (by omega), la]
      exact gR'
    · rw [sI_at, la]
  | succ m ih =>
    intro k hk I h g8 g9 gN
    have hkl : k < T.length := by omega
    obtain ⟨q, hq⟩ : ∃ q, T[k]? = some q := ⟨T[k], List.getElem?_eq_getElem hkl⟩
    have e0 : I 188 0 = nI T.length := h.2.2.2.2.1.1
    have eL := h.2.2.2.2.2
    obtain ⟨t0, t1, t2, t3⟩ := h.2.2.2.2.1.2.2 k q hq
    have q2 : q.1 ≤ 2 := by
      have := hA q (List.mem_of_getElem? hq)
      rcases this with ⟨z | z, -⟩ | ⟨z, -⟩ <;> omega
    have ws := wls_snoc hq
    refine v_L_begun_123 ?_
    by_cases c : q.1 = 2
    · rw [if_pos c] at ws
      rw [if_pos c] at t3
      have t0' : I 188 (1 + 4 * k) = nI 2 := by rw [t0, c]
      simp (disch := first | omega | assumption) only [n_lit, n_gLt, n_gLe, n_gEq, n_gEq2, n_gLe2, n_gLt2, n_m1, n_add, n_mul, n_lt, n_le, n_eq, n_cl, n_in, n_rem, n_mlt, n_mle, n_ltm, n_lem, n_eqm, n_meq, n_bit, n_shl, n_b0, n_b1, n_sub, n_inT, nT, nF, lT, lF, eT, eF, not_false_eq_true, not_true_eq_false, sI_at, sI_c, sI_j, aI_at, aI_c, sL_at, sL_c, sL_j, true_and, and_true, not_true_eq_false, not_false_eq_true, forall_const, true_implies, false_implies, implies_true, if_true, if_false, ite_true, ite_false, Bool.not_eq_true, Bool.not_eq_false, Bool.true_eq_false, Bool.false_eq_true, false_and, and_false, or_true, true_or, false_or, or_false, e0, eL, t0']
      obtain ⟨n, hn⟩ : ∃ n, n = (wls (T.take k)).length := ⟨_, rfl⟩
      have n4 : n ≤ k := by
        rw [hn]
        exact Nat.le_trans (wls_len _) (List.length_take_le _ _)
      have e9 : I k9 0 = nI n := by rw [hn]; exact g9.1
      have key : ∀ m2 i, i + m2 = 4 → ∀ I' : MI, (∀ a, a ≠ k9 → I' a = I a) → (∀ j, j < 1 + 4 * n → I' k9 j = I k9 j) → (∀ j, j < i → I' k9 (1 + 4 * n + j) = I 188 (1 + 4 * k + j)) → NW nn bc bs m_L_begun 146 [vr 21 0, vr 164 186, un, vr 4 188, un, vi (nI d), un, vi (nI x), vr 172 k8, vr 4 k9, vi (nI k), vi (nI i), un, un, un] [] b I' L (nwI K) := by
        intro m2
        induction m2 with
        | zero =>
          intro i hi I' f1 f2 f3
          obtain rfl : i = 4 := by omega
          have e9' : I' k9 0 = nI n := by rw [f2 0 (by omega)]; exact e9
          have eN' : I' (200000 + k9) 0 = nI (1 + 4 * T.length) := by rw [f1 _ (by omega)]; exact gN
          refine v_L_begun_146 ?_
          simp (disch := first | omega | assumption) only [n_lit, n_gLt, n_gLe, n_gEq, n_gEq2, n_gLe2, n_gLt2, n_m1, n_add, n_mul, n_lt, n_le, n_eq, n_cl, n_in, n_rem, n_mlt, n_mle, n_ltm, n_lem, n_eqm, n_meq, n_bit, n_shl, n_b0, n_b1, n_sub, n_inT, nT, nF, lT, lF, eT, eF, not_false_eq_true, not_true_eq_false, sI_at, sI_c, sI_j, aI_at, aI_c, sL_at, sL_c, sL_j, true_and, and_true, not_true_eq_false, not_false_eq_true, forall_const, true_implies, false_implies, implies_true, if_true, if_false, ite_true, ite_false, Bool.not_eq_true, Bool.not_eq_false, Bool.true_eq_false, Bool.false_eq_true, false_and, and_false, or_true, true_or, false_or, or_false, e9', eN']
          refine ih (k + 1) (by omega) _ ?_ ?_ ?_ ?_
          · exact h.fr (h.1.fr (fun a ha => by rw [sI_c (by omega), f1 a (by omega)])) rfl rfl (fun a ha => by rw [sI_c (by omega), f1 a (by omega)])
          · exact rwP_fr (by rw [sI_c (by omega), f1 _ (by omega)]) g8
          · rw [ws]
            refine rwP_snoc g9 ?_ (fun j j1 j2 => ?_) ?_ ?_ ?_ ?_
            all_goals (try rw [← hn] at j2)
            all_goals (try rw [← hn])
            · rw [sI_at]
            · rw [sI_j (by omega)]
              exact f2 j (by omega)
            · rw [sI_j (by omega)]
              have := f3 0 (by omega)
              rw [Nat.add_zero, Nat.add_zero] at this
              rw [this]
              exact t0
            · rw [sI_j (by omega), f3 1 (by omega)]
              exact t1
            · rw [sI_j (by omega), f3 2 (by omega)]
              exact t2
            · rw [sI_j (by omega), f3 3 (by omega), if_pos c]
              exact t3
          · rw [sI_c (by omega)]
            exact eN'
        | succ m2 ih2 =>
          intro i hi I' f1 f2 f3
          have e9' : I' k9 0 = nI n := by rw [f2 0 (by omega)]; exact e9
          have eN' : I' (200000 + k9) 0 = nI (1 + 4 * T.length) := by rw [f1 _ (by omega)]; exact gN
          have eL' : I' 200188 0 = nI (1 + 4 * T.length) := by rw [f1 _ (by omega)]; exact eL
          have e88 : I' 188 = I 188 := f1 188 (by omega)
          refine v_L_begun_146 ?_
          simp (disch := first | omega | assumption) only [n_lit, n_gLt, n_gLe, n_gEq, n_gEq2, n_gLe2, n_gLt2, n_m1, n_add, n_mul, n_lt, n_le, n_eq, n_cl, n_in, n_rem, n_mlt, n_mle, n_ltm, n_lem, n_eqm, n_meq, n_bit, n_shl, n_b0, n_b1, n_sub, n_inT, nT, nF, lT, lF, eT, eF, not_false_eq_true, not_true_eq_false, sI_at, sI_c, sI_j, aI_at, aI_c, sL_at, sL_c, sL_j, true_and, and_true, not_true_eq_false, not_false_eq_true, forall_const, true_implies, false_implies, implies_true, if_true, if_false, ite_true, ite_false, Bool.not_eq_true, Bool.not_eq_false, Bool.true_eq_false, Bool.false_eq_true, false_and, and_false, or_true, true_or, false_or, or_false, e9', eN', eL']
          refine ih2 (i + 1) (by omega) _ (fun a ha => ?_) (fun j hj => ?_) (fun j hj => ?_)
          · rw [sI_c ha]
            exact f1 a ha
          · rw [sI_j (by omega)]
            exact f2 j hj
          · by_cases e : j = i
            · rw [e, sI_at, e88]
            · rw [sI_j (by omega)]
              exact f3 j (by omega)
      exact key 4 0 (by omega) I (fun _ _ => rfl) (fun _ _ => rfl) (fun j hj => absurd hj (Nat.not_lt_zero _))
    · rw [if_neg c] at ws
      simp (disch := first | omega | assumption) only [n_lit, n_gLt, n_gLe, n_gEq, n_gEq2, n_gLe2, n_gLt2, n_m1, n_add, n_mul, n_lt, n_le, n_eq, n_cl, n_in, n_rem, n_mlt, n_mle, n_ltm, n_lem, n_eqm, n_meq, n_bit, n_shl, n_b0, n_b1, n_sub, n_inT, nT, nF, lT, lF, eT, eF, not_false_eq_true, not_true_eq_false, sI_at, sI_c, sI_j, aI_at, aI_c, sL_at, sL_c, sL_j, true_and, and_true, not_true_eq_false, not_false_eq_true, forall_const, true_implies, false_implies, implies_true, if_true, if_false, ite_true, ite_false, Bool.not_eq_true, Bool.not_eq_false, Bool.true_eq_false, Bool.false_eq_true, false_and, and_false, or_true, true_or, false_or, or_false, e0, eL, t0, c]
      exact ih (k + 1) (by omega) I h g8 (by rw [ws]; exact g9) gN
theorem bn_told {k8 : Nat} {p1 p2 : Nat} {b : Bool} {L : ML} (hV : Vok V) (hT : T.length ≤ 4) (hA : ∀ q, q ∈ T → Aok q) (hnv : 1 ≤ B.nv) (hnt : 1 ≤ B.nt) (hd : d ≤ 15) (h1 : p1 < V.n) (h2 : p2 < V.n) (hx : x = 2 ^ p1 ||| 2 ^ p2) (hx2 : x < 2 ^ V.n) (hr : 189 ≤ nn ∧ nn < 999) (h8 : 189 ≤ k8 ∧ k8 < nn) (hl : ∀ i, i ≤ V.n → (dnL 0 0 i x).length ≤ 2) (hlt : ∀ i, i < V.n → x.testBit i = true → (dnL 0 0 i x).length < 2) (hbc : 2 ≤ bc) (hbs : 42 ≤ bs) (hK : ∀ b' n' I' L', K (nI 1) b' n' I' L') : ∀ m i, i + m = V.n → ∀ I, LB V T B I → rwP k8 (dnL 0 0 i x) I → (∀ j, 1 + 4 * (dnL 0 0 i x).length ≤ j → I k8 j = nI 0) → NW nn bc bs m_L_begun 54 [vr 21 0, vr 164 186, vr 900 187, vr 4 188, un, vi (nI d), un, vi (nI x), vr 172 k8, vi (nI i), un, un, un, un, un] [] b I L (nwI K) := by
  obtain ⟨⟨n1, n8⟩, -⟩ := id hV
  intro m
  induction m with
  | zero =>
    intro i hi I h g8 gz
    obtain rfl : i = V.n := by omega
    have e0 : I 187 0 = nI V.n := h.2.2.2.1.1.1
    have eL := h.2.2.2.2.2
    refine v_L_begun_54 ?_
    simp (disch := first | omega | assumption) only [n_lit, n_gLt, n_gLe, n_gEq, n_gEq2, n_gLe2, n_gLt2, n_m1, n_add, n_mul, n_lt, n_le, n_eq, n_cl, n_in, n_rem, n_mlt, n_mle, n_ltm, n_lem, n_eqm, n_meq, n_bit, n_shl, n_b0, n_b1, n_sub, n_inT, nT, nF, lT, lF, eT, eF, not_false_eq_true, not_true_eq_false, sI_at, sI_c, sI_j, aI_at, aI_c, sL_at, sL_c, sL_j, true_and, and_true, not_true_eq_false, not_false_eq_true, forall_const, true_implies, false_implies, implies_true, if_true, if_false, ite_true, ite_false, Bool.not_eq_true, Bool.not_eq_false, Bool.true_eq_false, Bool.false_eq_true, false_and, and_false, or_true, true_or, false_or, or_false, e0, eL]
    refine NW_newd (hf := rfl) ⟨by rw [show (0 : Int32) = nI 0 from rfl, n_lt (by omega) (by omega)]; omega, by rw [n_cl (by omega)]; omega⟩ (by omega) (by rw [n_cl (by omega)]; omega) ?_
    refine v_L_begun_118 ?_
    have fr : ∀ a, a ≠ nn → a ≠ 200000 + nn → (sI (aI I nn (fun _ => 0)) (200000 + nn) 0 (nI (1 + 4 * T.length))) a = I a := fun a h1 h2 => by rw [sI_c h2, aI_o h1]
    refine bn_walls (k8 := k8) (k9 := nn) hV hT hA hnv hnt hd h1 h2 hx hx2 ⟨by omega, by omega⟩ ⟨h8.1, by omega, hr.1, by omega, by omega⟩ (hl V.n (Nat.le_refl _)) (by omega) (by rw [n_cl (by omega)]; omega) hK T.length 0 (Nat.zero_add _) _ ?_ (rwP_fr (fr _ (by omega) (by omega)) g8) ⟨?_, fun k q hk => ?_⟩ ?_
    · exact h.fr (h.1.fr (fun a ha => fr a (by omega) (by omega))) rfl rfl (fun a ha => fr a (by omega) (by omega))
    · rw [sI_c (by omega), aI_at]
      rfl
    · rw [List.take_zero] at hk
      cases hk
    · rw [sI_at]
  | succ m ih =>
    intro i hi I h g8 gz
    have e0 : I 187 0 = nI V.n := h.2.2.2.1.1.1
    have eb : bt (nI x) i = x.testBit i := bt_nI (by omega)
    refine v_L_begun_54 ?_
    cases c : x.testBit i with
    | false =>
      rw [c] at eb
      have ed : dnL 0 0 (i + 1) x = dnL 0 0 i x := by rw [dnL_s, c]; rfl
      simp (disch := first | omega | assumption) only [n_lit, n_gLt, n_gLe, n_gEq, n_gEq2, n_gLe2, n_gLt2, n_m1, n_add, n_mul, n_lt, n_le, n_eq, n_cl, n_in, n_rem, n_mlt, n_mle, n_ltm, n_lem, n_eqm, n_meq, n_bit, n_shl, n_b0, n_b1, n_sub, n_inT, nT, nF, lT, lF, eT, eF, not_false_eq_true, not_true_eq_false, sI_at, sI_c, sI_j, aI_at, aI_c, sL_at, sL_c, sL_j, true_and, and_true, not_true_eq_false, not_false_eq_true, forall_const, true_implies, false_implies, implies_true, if_true, if_false, ite_true, ite_false, Bool.not_eq_true, Bool.not_eq_false, Bool.true_eq_false, Bool.false_eq_true, false_and, and_false, or_true, true_or, false_or, or_false, e0, eb]
      exact ih (i + 1) (by omega) I h (by rw [ed]; exact g8) (by rw [ed]; exact gz)
    | true =>
      rw [c] at eb
      have ed : dnL 0 0 (i + 1) x = dnL 0 0 i x ++ [(0, 0, i, 0)] := by rw [dnL_s, c]; rfl
      have lt := hlt i (by omega) c
      obtain ⟨n, hn⟩ : ∃ n, n = (dnL 0 0 i x).length := ⟨_, rfl⟩
      have e8 : I k8 0 = nI n := by rw [hn]; exact g8.1
      rw [← hn] at lt
      simp (disch := first | omega | assumption) only [n_lit, n_gLt, n_gLe, n_gEq, n_gEq2, n_gLe2, n_gLt2, n_m1, n_add, n_mul, n_lt, n_le, n_eq, n_cl, n_in, n_rem, n_mlt, n_mle, n_ltm, n_lem, n_eqm, n_meq, n_bit, n_shl, n_b0, n_b1, n_sub, n_inT, nT, nF, lT, lF, eT, eF, not_false_eq_true, not_true_eq_false, sI_at, sI_c, sI_j, aI_at, aI_c, sL_at, sL_c, sL_j, true_and, and_true, not_true_eq_false, not_false_eq_true, forall_const, true_implies, false_implies, implies_true, if_true, if_false, ite_true, ite_false, Bool.not_eq_true, Bool.not_eq_false, Bool.true_eq_false, Bool.false_eq_true, false_and, and_false, or_true, true_or, false_or, or_false, e0, eb, e8]
      refine ih (i + 1) (by omega) _ ?_ ?_ (fun j hj => ?_)
      · exact h.fr (h.1.fr (fun a ha => by rw [sI_c (by omega), sI_c (by omega), sI_c (by omega)])) rfl rfl (fun a ha => by rw [sI_c (by omega), sI_c (by omega), sI_c (by omega)])
      · rw [ed]
        refine rwP_snoc g8 ?_ (fun j j1 j2 => ?_) ?_ ?_ ?_ ?_
        all_goals (try rw [← hn] at j2)
        all_goals (try rw [← hn])
        · rw [sI_at]
        · rw [sI_j (by omega), sI_j (by omega), sI_j (by omega)]
        · rw [sI_j (by omega), sI_j (by omega), sI_j (by omega)]
          exact gz _ (by omega)
        · rw [sI_j (by omega), sI_j (by omega), sI_j (by omega)]
          exact gz _ (by omega)
        · rw [sI_j (by omega), sI_j (by omega), sI_at]
        · rw [sI_j (by omega), sI_at]
          rfl
      · have el : (dnL 0 0 (i + 1) x).length = n + 1 := by rw [ed, List.length_append, ← hn]; rfl
        rw [el] at hj
        rw [sI_j (by omega), sI_j (by omega), sI_j (by omega)]
        exact gz j (by omega)
theorem c_Lbegun {a5 : Int32} {b : Bool} {I : MI} {L : ML} (h : LB V T B I) (hV : Vok V) (hT : T.length ≤ 4) (hA : ∀ q, q ∈ T → Aok q) (hnv : 1 ≤ B.nv) (hnt : 1 ≤ B.nt) (hnn : 189 ≤ nn ∧ nn < 998) (hbc : 3 ≤ bc) (hbs : 51 ≤ bs) (hK : ∀ b' n' I' L', K (nI 1) b' n' I' L') : NW nn bc bs m_L_begun 0 [vr 21 0, vr 164 186, vr 900 187, vr 4 188, vi a5, un, un, un, un, un, un, un, un, un, un] [] b I L (nwI K) := by
  obtain ⟨⟨n1, n8⟩, -⟩ := id hV
  obtain ⟨d, hd, ed⟩ := and_15 (a5 >>> (nI 15 &&& nI 31))
  obtain ⟨j1, j18, ej1⟩ := and_7 (a5 >>> (nI 19 &&& nI 31))
  obtain ⟨j2, j28, ej2⟩ := and_7 (a5 >>> (nI 22 &&& nI 31))
  have e0 : I 187 0 = nI V.n := h.2.2.2.1.1.1
  have h1 : j1 % V.n < V.n := Nat.mod_lt _ n1
  have h2 : j2 % V.n < V.n := Nat.mod_lt _ n1
  obtain ⟨p1, e1⟩ : ∃ p, p = j1 % V.n := ⟨_, rfl⟩
  obtain ⟨p2, e2⟩ : ∃ p, p = j2 % V.n := ⟨_, rfl⟩
  obtain ⟨x, hx⟩ : ∃ x, x = 2 ^ p1 ||| 2 ^ p2 := ⟨_, rfl⟩
  rw [← e1] at h1
  rw [← e2] at h2
  have hx2 : x < 2 ^ V.n := by
    rw [hx]
    exact Nat.or_lt_two_pow (Nat.pow_lt_pow_right (by decide) h1) (Nat.pow_lt_pow_right (by decide) h2)
  have cl : ∀ i, (dnL 0 0 i x).length = cntB x.testBit i := fun i => by
    show ((bitsL i x).map _).length = _
    rw [List.length_map, bitsL_len]
  have hb : ∀ i, x.testBit i = true → i = p1 ∨ i = p2 := fun i hi => by
    rw [hx, Nat.testBit_or, Bool.or_eq_true, Nat.testBit_two_pow, Nat.testBit_two_pow, decide_eq_true_iff, decide_eq_true_iff] at hi
    omega
  have en1 : nI 1 <<< (nI (j1 % V.n) &&& nI 31) = nI (2 ^ p1) := by rw [← e1]; exact n_shl (by omega)
  have en2 : nI 1 <<< (nI (j2 % V.n) &&& nI 31) = nI (2 ^ p2) := by rw [← e2]; exact n_shl (by omega)
  have er1 : nI j1 - nI j1 / nI V.n * nI V.n = nI (j1 % V.n) := n_rem (by omega) (by omega) (by omega)
  have er2 : nI j2 - nI j2 / nI V.n * nI V.n = nI (j2 % V.n) := n_rem (by omega) (by omega) (by omega)
  refine v_L_begun_0 ?_
  simp (disch := first | omega | assumption) only [n_lit, n_in, n_eq, n_cl, e0, ed, ej1, ej2, er1, er2, en1, en2, n_or, ← hx, true_and, and_true, not_false_eq_true, n_inT, nT, nF, eT, eF]
  refine NW_newa (hf := rfl) (by omega) (by omega) ?_
  refine v_L_begun_49 ?_
  have l2 : ∀ i, cntB x.testBit i ≤ 2 := fun i => by
    have := cntB_two hb i
    repeat' split at this
    all_goals omega
  refine bn_told (p1 := p1) (p2 := p2) (k8 := nn) hV hT hA hnv hnt (by omega) h1 h2 hx hx2 ⟨by omega, by omega⟩ ⟨hnn.1, by omega⟩ (fun i _ => by rw [cl]; exact l2 i) (fun i hi c => ?_) (by omega) (by omega) hK V.n 0 (Nat.zero_add _) _ ?_ ⟨?_, fun k q hk => ?_⟩ (fun j hj => ?_)
  · have := l2 (i + 1)
    have e : cntB x.testBit (i + 1) = cntB x.testBit i + (x.testBit i).toNat := rfl
    rw [c] at e
    have h3 : true.toNat = 1 := rfl
    rw [cl]
    omega
  · exact h.fr (h.1.fr (fun a ha => aI_o (by omega))) rfl rfl (fun a ha => aI_o (by omega))
  · rw [aI_at]
    rfl
  · have hk : ([] : List Act)[k]? = some q := hk
    cases hk
  · rw [aI_at]
    rfl
end BG
