/-! THE LAW: a cure, told besides -/
/-- what the law has told: its village, its telling, and the rows that hold them -/
def LB (V : Vil) (T : List Act) (B : Bk) (I : MI) : Prop := LwS B I ∧ B.vl 0 = cV V ∧ B.tl 0 = tlL T telN ∧ vaP 187 V I ∧ taP 188 T I ∧ I 200188 0 = nI (1 + 4 * T.length)
theorem LB.fr {V : Vil} {T : List Act} {B B' : Bk} {I I' : MI} (h : LB V T B I) (hs : LwS B' I') (hv : B'.vl 0 = B.vl 0) (ht : B'.tl 0 = B.tl 0) (f : ∀ a, a = 187 ∨ a = 188 ∨ a = 200188 → I' a = I a) : LB V T B' I' := by
  obtain ⟨h1, h2, h3, h4, h5, h6⟩ := h
  exact ⟨hs, hv.trans h2, ht.trans h3, vaP_fr (f 187 (by omega)) h4, taP_fr (f 188 (by omega)) (f 200188 (by omega)) h5, by rw [f 200188 (by omega)]; exact h6⟩
theorem LB.qf {V : Vil} {T : List Act} {B : Bk} {I I' : MI} (h : LB V T B I) (f : qF I I') : LB V T B I' := h.fr (h.1.qf f) rfl rfl (fun a ha => f a (by omega))
theorem and_7 (x : Int32) : ∃ j, j < 8 ∧ x &&& nI 7 = nI j := by
  obtain ⟨j, h1, h2⟩ := pk_andE x (m := nI 7) 3 rfl
  exact ⟨j, h1, h2⟩
theorem and_3 (x : Int32) : ∃ j, j < 4 ∧ x &&& nI 3 = nI j := by
  obtain ⟨j, h1, h2⟩ := pk_andE x (m := nI 3) 2 rfl
  exact ⟨j, h1, h2⟩
theorem and_15 (x : Int32) : ∃ j, j < 16 ∧ x &&& nI 15 = nI j := by
  obtain ⟨j, h1, h2⟩ := pk_andE x (m := nI 15) 4 rfl
  exact ⟨j, h1, h2⟩
theorem and_1 (x : Int32) : ∃ j, j < 2 ∧ x &&& nI 1 = nI j := by
  obtain ⟨j, h1, h2⟩ := pk_andE x (m := nI 1) 1 rfl
  exact ⟨j, h1, h2⟩
theorem c_bit {n x : Nat} (hn : n ≤ 16) (hx : x < 2 ^ n) {b : Bool} {I : MI} {L : ML} {K : Int32 → Bool → MI → ML → Prop} (hK : K (nI (cntB x.testBit n)) b I L) : CI m_J_bitCount [vi (nI x)] b I L K := by
  have e : nI x = bI n x.testBit := by
    unfold bI
    rw [bN_self hx]
  rw [e]
  exact c_bitCount hn hK
/-- an act more in a row -/
theorem taP_snoc {r : Nat} {l : List Act} {q : Act} {I I' : MI} (h : taP r l I) {N : Nat} (hN : I (200000 + r) 0 = nI N) (h1 : 1 + 4 * (l.length + 1) ≤ N) (h2 : N < 1000) (e0 : I' r 0 = nI (l.length + 1)) (el : ∀ j, 1 ≤ j → j < 1 + 4 * l.length → I' r j = I r j) (eN : I' (200000 + r) 0 = I (200000 + r) 0) (e1 : I' r (1 + 4 * l.length) = nI q.1) (e2 : I' r (1 + 4 * l.length + 1) = nI q.2.1) (e3 : I' r (1 + 4 * l.length + 2) = nI q.2.2.1) (e4 : I' r (1 + 4 * l.length + 3) = if q.1 = 2 then nI q.2.2.2 else nM) : taP r (l ++ [q]) I' := by
  obtain ⟨-, -, h5⟩ := h
  have len : (l ++ [q]).length = l.length + 1 := by simp
  refine ⟨by rw [len]; exact e0, ⟨N, by rw [len]; exact h1, h2, by rw [eN]; exact hN⟩, fun k z hk => ?_⟩
  by_cases c : k < l.length
  · rw [List.getElem?_append_left c] at hk
    rw [el _ (by omega) (by omega), el _ (by omega) (by omega), el _ (by omega) (by omega), el _ (by omega) (by omega)]
    exact h5 k z hk
  · have hl := (List.getElem?_eq_some_iff.mp hk).1
    obtain rfl : k = l.length := by omega
    have : z = q := by
      rw [List.getElem?_append_right (Nat.le_refl _), Nat.sub_self] at hk
      exact (Option.some.inj hk).symm
    subst this
    exact ⟨e1, e2, e3, e4⟩
section CU
variable {V : Vil} {T : List Act} {B : Bk} {nn bc bs d : Nat} {K : Int32 → Bool → Nat → MI → ML → Prop}
theorem cu_none (hV : Vok V) (hnv : B.nv = 1) (hnt : B.nt = 1) (hd : d ≤ 7) {n : Nat} (hn : n ≤ 2) (hz : ∀ s, s < n + 1 → cntL (cuW B 0 d) (LsA V.n s) = 0) (hK : ∀ b' I' L', LB V T B I' → K (nI 1) b' nn I' L') : ∀ m i, i + m = n + 1 → ∀ b I L, LB V T B I → NW nn bc bs m_L_cure 40 [vr 21 0, vr 164 186, vr 900 187, vr 4 188, un, vi (nI d), vi (nI n), vi nM, vi (nI i), un, un] [] b I L (nwI K) := by
  intro m
  induction m with
  | zero =>
    intro i hi b I L h
    obtain rfl : i = n + 1 := by omega
    refine v_L_cure_40 ?_
    simp (disch := first | omega | assumption) only [n_lit, n_gLt, n_gLe, n_gEq, n_gEq2, n_gLe2, n_gLt2, n_m1, n_add, n_mul, n_lt, n_le, n_eq, n_cl, n_in, n_rem, n_mlt, n_mle, n_ltm, n_lem, n_eqm, n_meq, n_bit, n_shl, n_b0, n_b1, n_sub, n_inT, nT, nF, lT, lF, eT, eF, not_false_eq_true, not_true_eq_false, sI_at, sI_c, sI_j, aI_at, aI_c, sL_at, sL_c, sL_j, true_and, and_true, not_true_eq_false, not_false_eq_true, forall_const, true_implies, false_implies, implies_true, if_true, if_false, ite_true, ite_false, Bool.not_eq_true, Bool.not_eq_false, Bool.true_eq_false, Bool.false_eq_true, false_and, and_false, or_true, true_or, false_or, or_false]
    exact hK b I L h
  | succ m ih =>
    intro i hi b I L h
    have hz0 := hz i (by omega)
    have en : (B.vl 0).n = V.n := by rw [h.2.1]; rfl
    refine v_L_cure_40 ?_
    simp (disch := first | omega | assumption) only [n_lit, n_gLt, n_gLe, n_gEq, n_gEq2, n_gLe2, n_gLt2, n_m1, n_add, n_mul, n_lt, n_le, n_eq, n_cl, n_in, n_rem, n_mlt, n_mle, n_ltm, n_lem, n_eqm, n_meq, n_bit, n_shl, n_b0, n_b1, n_sub, n_inT, nT, nF, lT, lF, eT, eF, not_false_eq_true, not_true_eq_false, sI_at, sI_c, sI_j, aI_at, aI_c, sL_at, sL_c, sL_j, true_and, and_true, not_true_eq_false, not_false_eq_true, forall_const, true_implies, false_implies, implies_true, if_true, if_false, ite_true, ite_false, Bool.not_eq_true, Bool.not_eq_false, Bool.true_eq_false, Bool.false_eq_true, false_and, and_false, or_true, true_or, false_or, or_false]
    refine q_cures h.1.1 h.1.2.1 (by omega) (by omega) (by omega) (by omega) (fun b' I' L' f => ?_)
    rw [en, hz0]
    simp (disch := first | omega | assumption) only [n_lit, n_gLt, n_gLe, n_gEq, n_gEq2, n_gLe2, n_gLt2, n_m1, n_add, n_mul, n_lt, n_le, n_eq, n_cl, n_in, n_rem, n_mlt, n_mle, n_ltm, n_lem, n_eqm, n_meq, n_bit, n_shl, n_b0, n_b1, n_sub, n_inT, nT, nF, lT, lF, eT, eF, not_false_eq_true, not_true_eq_false, sI_at, sI_c, sI_j, aI_at, aI_c, sL_at, sL_c, sL_j, true_and, and_true, not_true_eq_false, not_false_eq_true, forall_const, true_implies, false_implies, implies_true, if_true, if_false, ite_true, ite_false, Bool.not_eq_true, Bool.not_eq_false, Bool.true_eq_false, Bool.false_eq_true, false_and, and_false, or_true, true_or, false_or, or_false]
    exact ih (i + 1) (by omega) b' I' L' (h.qf f)
/-- the telling told besides: copied, then act by act -/
theorem cu_tell (hV : Vok V) (hT : T.length ≤ 4) (hA : ∀ q, q ∈ T → Aok q) (hnv : B.nv = 1) (hnt : B.nt = 1) (hd : d ≤ 7) {x s r : Nat} (hx : x < 2 ^ V.n) (hs : cntB x.testBit V.n = s) (hs2 : s ≤ 2) (hP : cuW B 0 d x = true) (hC : 0 < cntL (cuW B 0 d) (LsA V.n s)) (hr : 189 ≤ r) (hr2 : r < 1000) (hK : ∀ b' I' L' B', LB V T B' I' → B'.nv = 1 → 1 ≤ B'.nt → K (nI 1) b' nn I' L') : ∀ m i, i + m = V.n → ∀ b I L, LB V T B I → taP r (T ++ dnL 1 d i x) I → I (200000 + r) 0 = nI (1 + 4 * (T.length + s)) → NW nn bc bs m_L_cure 135 [vr 21 0, vr 164 186, vr 900 187, un, un, vi (nI d), un, vi (nI x), vr 4 r, vi (nI i), un] [] b I L (nwI K) := by
  obtain ⟨⟨n1, n8⟩, -⟩ := id hV
  have x8 : x < 256 := Nat.lt_of_lt_of_le hx (Nat.pow_le_pow_right (n := 2) (by decide) n8)
  have cl : ∀ i, (T ++ dnL 1 d i x).length = T.length + cntB x.testBit i := fun i => by
    rw [List.length_append]
    show _ + ((bitsL i x).map _).length = _
    rw [List.length_map, bitsL_len]
  have cmono : ∀ k i, cntB x.testBit i ≤ cntB x.testBit (i + k) := by
    intro k
    induction k with
    | zero => intro i; exact Nat.le_refl _
    | succ k ih =>
      intro i
      have := ih i
      show _ ≤ cntB x.testBit (i + k) + _
      omega
  intro m
  induction m with
  | zero =>
    intro i hi b I L h hP2 hN
    obtain rfl : i = V.n := by omega
    obtain ⟨hs0, hv0, ht0, ha0, hb0, hc0⟩ := id h
    have e0 : I 187 0 = nI V.n := ha0.1.1
    refine v_L_cure_135 ?_
    simp (disch := first | omega | assumption) only [n_lit, n_gLt, n_gLe, n_gEq, n_gEq2, n_gLe2, n_gLt2, n_m1, n_add, n_mul, n_lt, n_le, n_eq, n_cl, n_in, n_rem, n_mlt, n_mle, n_ltm, n_lem, n_eqm, n_meq, n_bit, n_shl, n_b0, n_b1, n_sub, n_inT, nT, nF, lT, lF, eT, eF, not_false_eq_true, not_true_eq_false, sI_at, sI_c, sI_j, aI_at, aI_c, sL_at, sL_c, sL_j, true_and, and_true, not_true_eq_false, not_false_eq_true, forall_const, true_implies, false_implies, implies_true, if_true, if_false, ite_true, ite_false, Bool.not_eq_true, Bool.not_eq_false, Bool.true_eq_false, Bool.false_eq_true, false_and, and_false, or_true, true_or, false_or, or_false, e0]
    have hAll : ∀ q, q ∈ T ++ dnL 1 d V.n x → Aok q := fun q hq => by
      rcases List.mem_append.mp hq with hq | hq
      · exact hA q hq
      · obtain ⟨p, hp, rfl⟩ := List.mem_map.mp hq
        have := List.mem_range.mp (List.mem_filter.mp hp).1
        exact Or.inl ⟨Or.inr rfl, show d ≤ 99 by omega, show p < 16 by omega, rfl⟩
    refine c_Ltelling (k := 1) hs0 (by omega) hP2 hAll (by rw [cl, hs]; omega) (Or.inl ⟨rfl, hnt.symm, by decide⟩) rfl (fun b1 I1 L1 B1 g1 g2 g3 g4 g5 f1 => ?_)
    have h1 : LB V T B1 I1 := h.fr g1 (by rw [g4]) (by rw [g5]; exact if_neg (by decide)) (fun a ha => f1 a (by omega))
    have nv1 : B1.nv = 1 := g2.trans hnv
    have nt1 : B1.nt = 2 := by rw [g3, hnt]; rfl
    have en : (B1.vl 0).n = V.n := by rw [h1.2.1]; rfl
    have tl1 : B1.tl 1 = tlL (T ++ dnL 1 d V.n x) telN := by rw [g5]; exact if_pos rfl
    have cw : ∀ y, cuW B1 0 d y = cuW B 0 d y := fun y => by
      unfold cuW wX
      rw [h1.2.1, h1.2.2.1, hv0, ht0]
    have wj : wJ B1 1 = wX B 0 (dnX x.testBit d d) := by
      unfold wJ wX
      rw [h1.2.1, hv0, tl1, ht0]
      exact dn_world _ _ T telN (show V.n ≤ 32 by omega) hx
    simp (disch := first | omega | assumption) only [n_lit, n_gLt, n_gLe, n_gEq, n_gEq2, n_gLe2, n_gLt2, n_m1, n_add, n_mul, n_lt, n_le, n_eq, n_cl, n_in, n_rem, n_mlt, n_mle, n_ltm, n_lem, n_eqm, n_meq, n_bit, n_shl, n_b0, n_b1, n_sub, n_inT, nT, nF, lT, lF, eT, eF, not_false_eq_true, not_true_eq_false, sI_at, sI_c, sI_j, aI_at, aI_c, sL_at, sL_c, sL_j, true_and, and_true, not_true_eq_false, not_false_eq_true, forall_const, true_implies, false_implies, implies_true, if_true, if_false, ite_true, ite_false, Bool.not_eq_true, Bool.not_eq_false, Bool.true_eq_false, Bool.false_eq_true, false_and, and_false, or_true, true_or, false_or, or_false]
    refine q_run (j := 1) g1.1 g1.2.1 (by omega) (by omega) (nI 2) (fun b2 I2 L2 f2 => ?_)
    have e2 : qRun (wJ B1 1) (nI 2) = nI 1 := by
      rw [wj]
      show nI (cleanB (wX B 0 (dnX x.testBit d d))).toNat = nI 1
      have : cleanB (wX B 0 (dnX x.testBit d d)) = true := hP
      rw [this]
      rfl
    rw [e2]
    have h2 := h1.qf f2
    simp (disch := first | omega | assumption) only [n_lit, n_gLt, n_gLe, n_gEq, n_gEq2, n_gLe2, n_gLt2, n_m1, n_add, n_mul, n_lt, n_le, n_eq, n_cl, n_in, n_rem, n_mlt, n_mle, n_ltm, n_lem, n_eqm, n_meq, n_bit, n_shl, n_b0, n_b1, n_sub, n_inT, nT, nF, lT, lF, eT, eF, not_false_eq_true, not_true_eq_false, sI_at, sI_c, sI_j, aI_at, aI_c, sL_at, sL_c, sL_j, true_and, and_true, not_true_eq_false, not_false_eq_true, forall_const, true_implies, false_implies, implies_true, if_true, if_false, ite_true, ite_false, Bool.not_eq_true, Bool.not_eq_false, Bool.true_eq_false, Bool.false_eq_true, false_and, and_false, or_true, true_or, false_or, or_false]
    refine c_bit (n := V.n) (by omega) hx ?_
    rw [hs]
    refine q_cures h2.1.1 h2.1.2.1 (by omega) (by omega) (by omega) hs2 (fun b3 I3 L3 f3 => ?_)
    have e3 : cuW B1 0 d = cuW B 0 d := funext cw
    have hb : cntL (cuW B 0 d) (LsA V.n s) < 1000 := by
      have h4 := cntL_le (P := cuW B 0 d) (LsA V.n s)
      have h5 := (setsP_of (sets_16 V.n (by omega) s (by omega))).2.2.2.1
      omega
    rw [en, e3]
    simp (disch := first | omega | assumption) only [n_lit, n_gLt, n_gLe, n_gEq, n_gEq2, n_gLe2, n_gLt2, n_m1, n_add, n_mul, n_lt, n_le, n_eq, n_cl, n_in, n_rem, n_mlt, n_mle, n_ltm, n_lem, n_eqm, n_meq, n_bit, n_shl, n_b0, n_b1, n_sub, n_inT, nT, nF, lT, lF, eT, eF, not_false_eq_true, not_true_eq_false, sI_at, sI_c, sI_j, aI_at, aI_c, sL_at, sL_c, sL_j, true_and, and_true, not_true_eq_false, not_false_eq_true, forall_const, true_implies, false_implies, implies_true, if_true, if_false, ite_true, ite_false, Bool.not_eq_true, Bool.not_eq_false, Bool.true_eq_false, Bool.false_eq_true, false_and, and_false, or_true, true_or, false_or, or_false]
    exact hK b3 I3 L3 B1 (h2.qf f3) nv1 (by omega)
  | succ m ih =>
    intro i hi b I L h hP2 hN
    obtain ⟨hs0, hv0, ht0, ha0, hb0, hc0⟩ := id h
    have e0 : I 187 0 = nI V.n := ha0.1.1
    have i8 : i < 8 := by omega
    have eb : bt (nI x) i = x.testBit i := bt_nI (by omega)
    refine v_L_cure_135 ?_
    have hcl := cl i
    cases c : x.testBit i with
    | false =>
      rw [c] at eb
      simp (disch := first | omega | assumption) only [n_lit, n_gLt, n_gLe, n_gEq, n_gEq2, n_gLe2, n_gLt2, n_m1, n_add, n_mul, n_lt, n_le, n_eq, n_cl, n_in, n_rem, n_mlt, n_mle, n_ltm, n_lem, n_eqm, n_meq, n_bit, n_shl, n_b0, n_b1, n_sub, n_inT, nT, nF, lT, lF, eT, eF, not_false_eq_true, not_true_eq_false, sI_at, sI_c, sI_j, aI_at, aI_c, sL_at, sL_c, sL_j, true_and, and_true, not_true_eq_false, not_false_eq_true, forall_const, true_implies, false_implies, implies_true, if_true, if_false, ite_true, ite_false, Bool.not_eq_true, Bool.not_eq_false, Bool.true_eq_false, Bool.false_eq_true, false_and, and_false, or_true, true_or, false_or, or_false, e0, eb]
      exact ih (i + 1) (by omega) b I L h (by rw [dnL_s, c]; exact hP2) hN
    | true =>
      rw [c] at eb
      have hlt : cntB x.testBit i + 1 ≤ s := by
        have h1 := cmono m (i + 1)
        rw [show i + 1 + m = V.n by omega, hs] at h1
        have h2 : cntB x.testBit (i + 1) = cntB x.testBit i + (x.testBit i).toNat := rfl
        rw [c] at h2
        have h3 : true.toNat = 1 := rfl
        omega
      obtain ⟨n, hn⟩ : ∃ n, n = (T ++ dnL 1 d i x).length := ⟨_, rfl⟩
      have n4 : n < 7 := by omega
      have er : I r 0 = nI n := by rw [hn]; exact hP2.1
      have hcap : 1 + 4 * (n + 1) ≤ 1 + 4 * (T.length + s) := by omega
      have N25 : 1 + 4 * (T.length + s) ≤ 25 := by omega
      simp (disch := first | omega | assumption) only [n_lit, n_gLt, n_gLe, n_gEq, n_gEq2, n_gLe2, n_gLt2, n_m1, n_add, n_mul, n_lt, n_le, n_eq, n_cl, n_in, n_rem, n_mlt, n_mle, n_ltm, n_lem, n_eqm, n_meq, n_bit, n_shl, n_b0, n_b1, n_sub, n_inT, nT, nF, lT, lF, eT, eF, not_false_eq_true, not_true_eq_false, sI_at, sI_c, sI_j, aI_at, aI_c, sL_at, sL_c, sL_j, true_and, and_true, not_true_eq_false, not_false_eq_true, forall_const, true_implies, false_implies, implies_true, if_true, if_false, ite_true, ite_false, Bool.not_eq_true, Bool.not_eq_false, Bool.true_eq_false, Bool.false_eq_true, false_and, and_false, or_true, true_or, false_or, or_false, e0, eb, er, hN]
      refine ih (i + 1) (by omega) b _ L ?_ ?_ ?_
      · refine h.fr ?_ rfl rfl (fun a ha => by rw [sI_c (by omega), sI_c (by omega), sI_c (by omega), sI_c (by omega), sI_c (by omega)])
        exact hs0.fr (fun a ha => by rw [sI_c (by omega), sI_c (by omega), sI_c (by omega), sI_c (by omega), sI_c (by omega)])
      · rw [dnL_s, c, if_pos rfl, ← List.append_assoc]
        refine taP_snoc hP2 hN (by rw [← hn]; exact hcap) (by omega) ?_ (fun j j1 j2 => ?_) ?_ ?_ ?_ ?_ ?_
        all_goals (try rw [← hn] at j2)
        all_goals (try rw [← hn])
        · rw [sI_at]
        · rw [sI_j (by omega), sI_j (by omega), sI_j (by omega), sI_j (by omega), sI_j (by omega)]
        · rw [sI_c (by omega), sI_c (by omega), sI_c (by omega), sI_c (by omega), sI_c (by omega)]
        · rw [sI_j (by omega), sI_j (by omega), sI_j (by omega), sI_j (by omega), sI_at]
        · rw [sI_j (by omega), sI_j (by omega), sI_j (by omega), sI_at]
        · rw [sI_j (by omega), sI_j (by omega), sI_at]
        · rw [sI_j (by omega), sI_at]
          rfl
      · rw [sI_c (by omega), sI_c (by omega), sI_c (by omega), sI_c (by omega), sI_c (by omega)]
        exact hN
theorem cu_copy {x r N : Nat} {b : Bool} {L : ML} (hT : T.length ≤ 4) (hr : 189 ≤ r) (hr2 : r < 1000) (hN : 1 + 4 * T.length ≤ N) (hN2 : N < 1000) (hK : ∀ I', LB V T B I' → taP r T I' → I' (200000 + r) 0 = nI N → NW nn bc bs m_L_cure 135 [vr 21 0, vr 164 186, vr 900 187, un, un, vi (nI d), un, vi (nI x), vr 4 r, vi (nI 0), un] [] b I' L (nwI K)) : ∀ m i, i + m = 1 + 4 * T.length → ∀ I, LB V T B I → (∀ j, j < i → I r j = I 188 j) → I (200000 + r) 0 = nI N → NW nn bc bs m_L_cure 110 [vr 21 0, vr 164 186, vr 900 187, vr 4 188, un, vi (nI d), un, vi (nI x), vr 4 r, vi (nI i), un] [] b I L (nwI K) := by
  intro m
  induction m with
  | zero =>
    intro i hi I h hj hI
    obtain rfl : i = 1 + 4 * T.length := by omega
    have e0 := h.2.2.2.2.2
    refine v_L_cure_110 ?_
    simp (disch := first | omega | assumption) only [n_lit, n_gLt, n_gLe, n_gEq, n_gEq2, n_gLe2, n_gLt2, n_m1, n_add, n_mul, n_lt, n_le, n_eq, n_cl, n_in, n_rem, n_mlt, n_mle, n_ltm, n_lem, n_eqm, n_meq, n_bit, n_shl, n_b0, n_b1, n_sub, n_inT, nT, nF, lT, lF, eT, eF, not_false_eq_true, not_true_eq_false, sI_at, sI_c, sI_j, aI_at, aI_c, sL_at, sL_c, sL_j, true_and, and_true, not_true_eq_false, not_false_eq_true, forall_const, true_implies, false_implies, implies_true, if_true, if_false, ite_true, ite_false, Bool.not_eq_true, Bool.not_eq_false, Bool.true_eq_false, Bool.false_eq_true, false_and, and_false, or_true, true_or, false_or, or_false, e0]
    refine hK I h ?_ hI
    obtain ⟨t1, -, t3⟩ := h.2.2.2.2.1
    refine ⟨by rw [hj 0 (by omega)]; exact t1, ⟨N, hN, hN2, hI⟩, fun k q hk => ?_⟩
    have hl := (List.getElem?_eq_some_iff.mp hk).1
    rw [hj _ (by omega), hj _ (by omega), hj _ (by omega), hj _ (by omega)]
    exact t3 k q hk
  | succ m ih =>
    intro i hi I h hj hI
    have e0 := h.2.2.2.2.2
    refine v_L_cure_110 ?_
    simp (disch := first | omega | assumption) only [n_lit, n_gLt, n_gLe, n_gEq, n_gEq2, n_gLe2, n_gLt2, n_m1, n_add, n_mul, n_lt, n_le, n_eq, n_cl, n_in, n_rem, n_mlt, n_mle, n_ltm, n_lem, n_eqm, n_meq, n_bit, n_shl, n_b0, n_b1, n_sub, n_inT, nT, nF, lT, lF, eT, eF, not_false_eq_true, not_true_eq_false, sI_at, sI_c, sI_j, aI_at, aI_c, sL_at, sL_c, sL_j, true_and, and_true, not_true_eq_false, not_false_eq_true, forall_const, true_implies, false_implies, implies_true, if_true, if_false, ite_true, ite_false, Bool.not_eq_true, Bool.not_eq_false, Bool.true_eq_false, Bool.false_eq_true, false_and, and_false, or_true, true_or, false_or, or_false, e0, hI]
    refine ih (i + 1) (by omega) _ ?_ (fun j hj2 => ?_) ?_
    · exact h.fr (h.1.fr (fun a ha => sI_c (by omega))) rfl rfl (fun a ha => sI_c (by omega))
    · rw [sI_c (a := 188) (by omega)]
      by_cases e : j = i
      · rw [e, sI_at]
      · rw [sI_j e]
        exact hj j (by omega)
    · rw [sI_c (by omega)]
      exact hI
theorem cu_some (hV : Vok V) (hT : T.length ≤ 4) (hA : ∀ q, q ∈ T → Aok q) (hnv : B.nv = 1) (hnt : B.nt = 1) (hd : d ≤ 7) (hnn : 189 ≤ nn ∧ nn < 999) (hbc : 1 ≤ bc) (hbs : 25 ≤ bs) {n x s : Nat} (hx : x < 2 ^ V.n) (hs : cntB x.testBit V.n = s) (hs2 : s ≤ 2) (hP : cuW B 0 d x = true) (hC : 0 < cntL (cuW B 0 d) (LsA V.n s)) (hz : ∀ s', s' < s → cntL (cuW B 0 d) (LsA V.n s') = 0) (hK : ∀ b' nn' I' L' B', LB V T B' I' → B'.nv = 1 → 1 ≤ B'.nt → 189 ≤ nn' ∧ nn' ≤ nn + 1 → K (nI 1) b' nn' I' L') : ∀ m i, i + m = s → ∀ b I L, LB V T B I → NW nn bc bs m_L_cure 40 [vr 21 0, vr 164 186, vr 900 187, vr 4 188, un, vi (nI d), vi (nI n), vi (nI x), vi (nI i), un, un] [] b I L (nwI K) := by
  obtain ⟨⟨n1, n8⟩, -⟩ := id hV
  have x8 : x < 256 := Nat.lt_of_lt_of_le hx (Nat.pow_le_pow_right (n := 2) (by decide) n8)
  intro m
  induction m with
  | zero =>
    intro i hi b I L h
    obtain rfl : i = s := by omega
    have e0 : I 188 0 = nI T.length := h.2.2.2.2.1.1
    have e1 := h.2.2.2.2.2
    refine v_L_cure_40 ?_
    simp (disch := first | omega | assumption) only [n_lit, n_gLt, n_gLe, n_gEq, n_gEq2, n_gLe2, n_gLt2, n_m1, n_add, n_mul, n_lt, n_le, n_eq, n_cl, n_in, n_rem, n_mlt, n_mle, n_ltm, n_lem, n_eqm, n_meq, n_bit, n_shl, n_b0, n_b1, n_sub, n_inT, nT, nF, lT, lF, eT, eF, not_false_eq_true, not_true_eq_false, sI_at, sI_c, sI_j, aI_at, aI_c, sL_at, sL_c, sL_j, true_and, and_true, not_true_eq_false, not_false_eq_true, forall_const, true_implies, false_implies, implies_true, if_true, if_false, ite_true, ite_false, Bool.not_eq_true, Bool.not_eq_false, Bool.true_eq_false, Bool.false_eq_true, false_and, and_false, or_true, true_or, false_or, or_false]
    refine c_bit (n := V.n) (by omega) hx ?_
    rw [hs]
    simp (disch := first | omega | assumption) only [n_lit, n_gLt, n_gLe, n_gEq, n_gEq2, n_gLe2, n_gLt2, n_m1, n_add, n_mul, n_lt, n_le, n_eq, n_cl, n_in, n_rem, n_mlt, n_mle, n_ltm, n_lem, n_eqm, n_meq, n_bit, n_shl, n_b0, n_b1, n_sub, n_inT, nT, nF, lT, lF, eT, eF, not_false_eq_true, not_true_eq_false, sI_at, sI_c, sI_j, aI_at, aI_c, sL_at, sL_c, sL_j, true_and, and_true, not_true_eq_false, not_false_eq_true, forall_const, true_implies, false_implies, implies_true, if_true, if_false, ite_true, ite_false, Bool.not_eq_true, Bool.not_eq_false, Bool.true_eq_false, Bool.false_eq_true, false_and, and_false, or_true, true_or, false_or, or_false, e0, e1]
    refine c_bit (n := V.n) (by omega) hx ?_
    rw [hs]
    simp (disch := first | omega | assumption) only [n_lit, n_gLt, n_gLe, n_gEq, n_gEq2, n_gLe2, n_gLt2, n_m1, n_add, n_mul, n_lt, n_le, n_eq, n_cl, n_in, n_rem, n_mlt, n_mle, n_ltm, n_lem, n_eqm, n_meq, n_bit, n_shl, n_b0, n_b1, n_sub, n_inT, nT, nF, lT, lF, eT, eF, not_false_eq_true, not_true_eq_false, sI_at, sI_c, sI_j, aI_at, aI_c, sL_at, sL_c, sL_j, true_and, and_true, not_true_eq_false, not_false_eq_true, forall_const, true_implies, false_implies, implies_true, if_true, if_false, ite_true, ite_false, Bool.not_eq_true, Bool.not_eq_false, Bool.true_eq_false, Bool.false_eq_true, false_and, and_false, or_true, true_or, false_or, or_false, e0, e1]
    refine NW_newd (hf := rfl) ⟨by rw [show (0 : Int32) = nI 0 from rfl, n_lt (by omega) (by omega)]; omega, by rw [n_cl (by omega)]; omega⟩ hbc (by rw [n_cl (by omega)]; omega) ?_
    refine v_L_cure_105 ?_
    refine cu_copy (V := V) (B := B) (N := 1 + 4 * (T.length + i)) hT hnn.1 (by omega) (by omega) (by omega) (fun I' g1 g2 g3 => ?_) (1 + 4 * T.length) 0 (by omega) _ ?_ (fun j hj => absurd hj (Nat.not_lt_zero _)) ?_
    · refine cu_tell hV hT hA hnv hnt hd hx hs hs2 hP hC hnn.1 (by omega) (fun b' I' L' B' k1 k2 k3 => hK b' _ I' L' B' k1 k2 k3 ⟨by omega, Nat.le_refl _⟩) V.n 0 (Nat.zero_add _) b I' _ g1 ?_ g3
      rw [show dnL 1 d 0 x = [] from rfl, List.append_nil]
      exact g2
    · have fr : ∀ a, a ≠ nn → a ≠ 200000 + nn → (sI (aI I nn (fun _ => 0)) (200000 + nn) 0 (nI (1 + 4 * (T.length + i)))) a = I a := fun a h1 h2 => by rw [sI_c h2, aI_o h1]
      exact h.fr (h.1.fr (fun a ha => fr a (by omega) (by omega))) rfl rfl (fun a ha => fr a (by omega) (by omega))
    · rw [sI_at]
  | succ m ih =>
    intro i hi b I L h
    have hz0 := hz i (by omega)
    have en : (B.vl 0).n = V.n := by rw [h.2.1]; rfl
    refine v_L_cure_40 ?_
    simp (disch := first | omega | assumption) only [n_lit, n_gLt, n_gLe, n_gEq, n_gEq2, n_gLe2, n_gLt2, n_m1, n_add, n_mul, n_lt, n_le, n_eq, n_cl, n_in, n_rem, n_mlt, n_mle, n_ltm, n_lem, n_eqm, n_meq, n_bit, n_shl, n_b0, n_b1, n_sub, n_inT, nT, nF, lT, lF, eT, eF, not_false_eq_true, not_true_eq_false, sI_at, sI_c, sI_j, aI_at, aI_c, sL_at, sL_c, sL_j, true_and, and_true, not_true_eq_false, not_false_eq_true, forall_const, true_implies, false_implies, implies_true, if_true, if_false, ite_true, ite_false, Bool.not_eq_true, Bool.not_eq_false, Bool.true_eq_false, Bool.false_eq_true, false_and, and_false, or_true, true_or, false_or, or_false]
    refine c_bit (n := V.n) (by omega) hx ?_
    rw [hs]
    simp (disch := first | omega | assumption) only [n_lit, n_gLt, n_gLe, n_gEq, n_gEq2, n_gLe2, n_gLt2, n_m1, n_add, n_mul, n_lt, n_le, n_eq, n_cl, n_in, n_rem, n_mlt, n_mle, n_ltm, n_lem, n_eqm, n_meq, n_bit, n_shl, n_b0, n_b1, n_sub, n_inT, nT, nF, lT, lF, eT, eF, not_false_eq_true, not_true_eq_false, sI_at, sI_c, sI_j, aI_at, aI_c, sL_at, sL_c, sL_j, true_and, and_true, not_true_eq_false, not_false_eq_true, forall_const, true_implies, false_implies, implies_true, if_true, if_false, ite_true, ite_false, Bool.not_eq_true, Bool.not_eq_false, Bool.true_eq_false, Bool.false_eq_true, false_and, and_false, or_true, true_or, false_or, or_false]
    refine q_cures h.1.1 h.1.2.1 (by omega) (by omega) (by omega) (by omega) (fun b' I' L' f => ?_)
    rw [en, hz0]
    simp (disch := first | omega | assumption) only [n_lit, n_gLt, n_gLe, n_gEq, n_gEq2, n_gLe2, n_gLt2, n_m1, n_add, n_mul, n_lt, n_le, n_eq, n_cl, n_in, n_rem, n_mlt, n_mle, n_ltm, n_lem, n_eqm, n_meq, n_bit, n_shl, n_b0, n_b1, n_sub, n_inT, nT, nF, lT, lF, eT, eF, not_false_eq_true, not_true_eq_false, sI_at, sI_c, sI_j, aI_at, aI_c, sL_at, sL_c, sL_j, true_and, and_true, not_true_eq_false, not_false_eq_true, forall_const, true_implies, false_implies, implies_true, if_true, if_false, ite_true, ite_false, Bool.not_eq_true, Bool.not_eq_false, Bool.true_eq_false, Bool.false_eq_true, false_and, and_false, or_true, true_or, false_or, or_false]
    exact ih (i + 1) (by omega) b' I' L' (h.qf f)
theorem c_Lcure {a5 : Int32} {b : Bool} {I : MI} {L : ML} (h : LB V T B I) (hV : Vok V) (hT : T.length ≤ 4) (hA : ∀ q, q ∈ T → Aok q) (hnv : B.nv = 1) (hnt : B.nt = 1) (hnn : 189 ≤ nn ∧ nn < 999) (hbc : 1 ≤ bc) (hbs : 25 ≤ bs) (hK : ∀ b' nn' I' L' B', LB V T B' I' → B'.nv = 1 → 1 ≤ B'.nt → 189 ≤ nn' ∧ nn' ≤ nn + 1 → K (nI 1) b' nn' I' L') : NW nn bc bs m_L_cure 0 [vr 21 0, vr 164 186, vr 900 187, vr 4 188, vi a5, un, un, un, un, un, un] [] b I L (nwI K) := by
  obtain ⟨⟨n1, n8⟩, -⟩ := id hV
  obtain ⟨d, hd, ed⟩ := and_7 (a5 >>> (nI 9 &&& nI 31))
  have e0 : I 187 0 = nI V.n := h.2.2.2.1.1.1
  have en : (B.vl 0).n = V.n := by rw [h.2.1]; rfl
  have main : ∀ n, 1 ≤ n → n ≤ 2 → CI m_S_cure [vr 21 0, vi (nI 0), vi (nI 0), vi (nI d), vi (nI n)] b I L (fun v_1 b_1 I_1 L_1 => NW nn bc bs m_L_cure 40 [vr 21 0, vr 164 186, vr 900 187, vr 4 188, un, vi (nI d), vi (nI n), vi v_1, vi (nI 0), un, un] [] b_1 I_1 L_1 (nwI K)) := by
    intro n h1 h2
    refine q_cure h.1.1 h.1.2.1 (by omega) (by omega) (by omega) (by omega) (fun b' I' L' f => ?_)
    rw [en]
    rcases szF_get (P := cuW B 0 d) (n := V.n) (n + 1) 0 with ⟨z1, z2⟩ | ⟨x, s, z1, -, z3, z4, z5, z6⟩
    · rw [z1]
      exact cu_none hV hnv hnt (by omega) h2 (fun s hs => z2 s (Nat.zero_le _) (by omega)) (fun b' I' L' g => hK b' nn I' L' B g hnv (by omega) ⟨hnn.1, by omega⟩) (n + 1) 0 (by omega) b' I' L' (h.qf f)
    · rw [z1]
      obtain ⟨x1, x2⟩ := LsA_mem z4
      exact cu_some hV hT hA hnv hnt (by omega) hnn hbc hbs x1 x2 (by omega) z5 (cntL_pos z4 z5) (fun s' hs' => z6 s' (Nat.zero_le _) hs') hK s 0 (by omega) b' I' L' (h.qf f)
  refine v_L_cure_0 ?_
  by_cases c : V.n ≤ 6
  · simp (disch := first | omega | assumption) only [n_lit, n_gLt, n_gLe, n_gEq, n_gEq2, n_gLe2, n_gLt2, n_m1, n_add, n_mul, n_lt, n_le, n_eq, n_cl, n_in, n_rem, n_mlt, n_mle, n_ltm, n_lem, n_eqm, n_meq, n_bit, n_shl, n_b0, n_b1, n_sub, n_inT, nT, nF, lT, lF, eT, eF, not_false_eq_true, not_true_eq_false, sI_at, sI_c, sI_j, aI_at, aI_c, sL_at, sL_c, sL_j, true_and, and_true, not_true_eq_false, not_false_eq_true, forall_const, true_implies, false_implies, implies_true, if_true, if_false, ite_true, ite_false, Bool.not_eq_true, Bool.not_eq_false, Bool.true_eq_false, Bool.false_eq_true, false_and, and_false, or_true, true_or, false_or, or_false, e0, ed]
    exact main 2 (by omega) (by omega)
  · simp (disch := first | omega | assumption) only [n_lit, n_gLt, n_gLe, n_gEq, n_gEq2, n_gLe2, n_gLt2, n_m1, n_add, n_mul, n_lt, n_le, n_eq, n_cl, n_in, n_rem, n_mlt, n_mle, n_ltm, n_lem, n_eqm, n_meq, n_bit, n_shl, n_b0, n_b1, n_sub, n_inT, nT, nF, lT, lF, eT, eF, not_false_eq_true, not_true_eq_false, sI_at, sI_c, sI_j, aI_at, aI_c, sL_at, sL_c, sL_j, true_and, and_true, not_true_eq_false, not_false_eq_true, forall_const, true_implies, false_implies, implies_true, if_true, if_false, ite_true, ite_false, Bool.not_eq_true, Bool.not_eq_false, Bool.true_eq_false, Bool.false_eq_true, false_and, and_false, or_true, true_or, false_or, or_false, e0, ed]
    exact main 1 (by omega) (by omega)
end CU
