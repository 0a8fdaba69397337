/-! WAYS: the class's cells -/
def cmC (r a : Nat) (s : Sp) (I : MI) : Prop := ∀ p, s.1 p = true → p ≠ a → I r p = nI (s.2 p)
theorem bI_inj {n : Nat} {f g : Nat → Bool} (hn : n ≤ 32) (h : bI n f = bI n g) {i : Nat} (hi : i < n) : f i = g i := by
  have := congrArg (fun x => bt x i) h
  simp only [bI_bit f hn, bI_bit g hn, decide_eq_true hi, Bool.true_and] at this
  exact this
theorem tst_bI {v : Vil} {T : Nat → Bool} {s : Sp} {t : Nat} (hn : v.n ≤ 32) (hb : bsd v T t < v.n) (h : trg v T s t = true) : bI v.n (tst v T s t).1 = bI v.n s.1 ||| nI (2 ^ bsd v T t) := by
  rw [tst_t h, or_bit hn hb rfl]
  exact bI_cong (fun i _ => by
    show (s.1 i || decide (i = bsd v T t)) = (s.1 i || decide (bsd v T t = i))
    congr 1
    exact decide_eq_decide.mpr ⟨fun q => q.symm, fun q => q.symm⟩)
theorem tst_cm {v : Vil} {T : Nat → Bool} {s : Sp} {r a t : Nat} {I : MI} (h : trg v T s t = true) (k : cmC r a s I) : cmC r a (tst v T s t) (sI I r (bsd v T t) (nI t)) := by
  rw [tst_t h]
  intro p hp ha
  have hp : (s.1 p || decide (p = bsd v T t)) = true := hp
  show _ = nI (if p = bsd v T t then t else s.2 p)
  by_cases e : p = bsd v T t
  · rw [if_pos e, e, sI_at]
  · rw [if_neg e, sI_j e]
    rw [decide_eq_false e, Bool.or_false] at hp
    exact k p hp ha
theorem c_reached {v : Vil} {r a : Nat} {T : Nat → Bool} {I : MI} {L : ML} (hv : v.ok 40) (hr : r + 6 < 36) (hV : vilC r v I) (ha : a < v.n) (hT : ∀ k, k < v.m → bl (L 183 2) k = T k) {b : Bool} {K : Int32 → Bool → MI → ML → Prop} (hK : ∀ I', (∀ x, x ≠ 184 → I' x = I x) → cmC 184 a (spF v T a) I' → K (bI v.n (spF v T a).1) b I' L) : CI m_Ways_reached [vr 20 183, vr 19 r, vi (nI a)] b I L K := by
  have hn := hv.1.2
  have hm := hv.2.1
  have round : ∀ n k, k + n = 16 → ∀ (x4 : Int32) (I1 : MI), (∀ x, x ≠ 184 → I1 x = I x) → cmC 184 a (rdS v T a k) I1 → (bI v.n (rdS v T a k).1 = x4 → ∃ j, j < k ∧ k = j + 1 ∧ rdS v T a k = rdS v T a j) → SW m_Ways_reached 10 [vr 20 183, vr 19 r, un, vi (bI v.n (rdS v T a k).1), vi x4, vi (nI k), un, un, un, un] [] b I1 L (kI K) := by
    intro n
    induction n with
    | zero =>
      intro k hk x4 I1 f1 c1 _
      obtain rfl : k = 16 := by omega
      exact v_Ways_reached_10 ⟨fun _ => hK I1 f1 c1, fun z => absurd (by decide) z⟩
    | succ n ih =>
      intro k hk x4 I1 f1 c1 h4
      have hI := rdS_I (T := T) hv ha k
      refine v_Ways_reached_10 ⟨fun z => absurd z (by rw [show (16 : Int32) = nI 16 from rfl, n_le (by omega) (by omega)]; omega), fun _ => ⟨fun z => ?_, fun z => ?_⟩⟩
      · obtain ⟨j, hj, rfl, e⟩ := h4 z
        have ef : spF v T a = rdS v T a (j + 1) := (rdS_spF (by omega) e).trans e.symm
        have kk := hK I1 f1
        rw [ef] at kk
        exact kk c1
      · have sweep : ∀ m i, i + m = v.m → ∀ I2 : MI, (∀ x, x ≠ 184 → I2 x = I x) → cmC 184 a (swS v T (rdS v T a k) i) I2 → SW m_Ways_reached 29 [vr 20 183, vr 19 r, un, vi (bI v.n (swS v T (rdS v T a k) i).1), vi (bI v.n (rdS v T a k).1), vi (nI k), vi (nI i), un, un, un] [] b I2 L (kI K) := by
          intro m
          induction m with
          | zero =>
            intro i hi I2 f2 c2
            obtain rfl : i = v.m := by omega
            have e3 : I2 r 3 = nI v.m := by rw [f2 r (by omega)]; exact hV.1.2.1
            refine v_Ways_reached_29 ⟨fun _ => ?_, fun z => absurd (by rw [e3, n_le (by omega) (by omega)]; exact Nat.le_refl _) z⟩
            rw [show nI k + (1 : Int32) = nI (k + 1) from n_add k 1]
            refine ih (k + 1) (by omega) _ I2 f2 c2 (fun e => ⟨k, by omega, rfl, ?_⟩)
            exact swS_same (fun t ht => bI_inj (by omega) e (sd_lt hv T ht).2)
          | succ m ihm =>
            intro i hi I2 f2 c2
            have e3 : I2 r 3 = nI v.m := by rw [f2 r (by omega)]; exact hV.1.2.1
            obtain ⟨z1, z2, z3, -⟩ := hv.2.2.2.2.2.2 i (by omega)
            obtain ⟨t1, t2, -⟩ := hV.2.2 i (by omega)
            rw [← f2 (r + 3) (by omega)] at t1
            rw [← f2 (r + 4) (by omega)] at t2
            have hb := (sd_lt hv T (t := i) (by omega)).2
            have hbit := hT i (by omega)
            have eL : lg_cmp ((L 183 2 >>> ((nI i).toInt64 &&& 63)) &&& 1) 0 = nI (T i).toNat := by rw [l_cmp (by omega), hbit]
            have bf : bt (bI v.n (swS v T (rdS v T a k) i).1) (v.fr i) = (swS v T (rdS v T a k) i).1 (v.fr i) := by rw [bI_bit _ (by omega), decide_eq_true z1, Bool.true_and]
            have bto : bt (bI v.n (swS v T (rdS v T a k) i).1) (v.to i) = (swS v T (rdS v T a k) i).1 (v.to i) := by rw [bI_bit _ (by omega), decide_eq_true z2, Bool.true_and]
            have nx0 : trg v T (swS v T (rdS v T a k) i) i = false → SW m_Ways_reached 29 [vr 20 183, vr 19 r, un, vi (bI v.n (swS v T (rdS v T a k) i).1), vi (bI v.n (rdS v T a k).1), vi (nI k), vi (nI (i + 1)), un, un, un] [] b I2 L (kI K) := fun c => by
              have es : swS v T (rdS v T a k) (i + 1) = swS v T (rdS v T a k) i := tst_f c
              have g := ihm (i + 1) (by omega) I2 f2
              rw [es] at g
              exact g c2
            have nx1 : trg v T (swS v T (rdS v T a k) i) i = true → SW m_Ways_reached 29 [vr 20 183, vr 19 r, un, vi (bI v.n (swS v T (rdS v T a k) i).1 ||| nI (2 ^ bsd v T i)), vi (bI v.n (rdS v T a k).1), vi (nI k), vi (nI (i + 1)), un, un, un] [] b (sI I2 184 (bsd v T i) (nI i)) L (kI K) := fun c => by
              have g := ihm (i + 1) (by omega) (sI I2 184 (bsd v T i) (nI i)) (fun x hx => by rw [sI_c hx, f2 x hx]) (tst_cm c c2)
              rw [show bI v.n (swS v T (rdS v T a k) (i + 1)).1 = _ from tst_bI (by omega) hb c] at g
              exact g
            unfold trg asd bsd at nx0 nx1
            refine v_Ways_reached_29 ?_
            cases cT : T i with
            | true =>
              rw [cT] at eL nx0 nx1
              have eL : lg_cmp ((L 183 2 >>> ((nI i).toInt64 &&& 63)) &&& 1) 0 = nI 1 := eL
              rw [if_pos rfl, if_pos rfl] at nx0 nx1
              cases ct : (swS v T (rdS v T a k) i).1 (v.to i) with
              | false =>
                rw [ct] at nx0 bto
                have g := nx0 rfl
                simp (disch := first | omega | assumption) only [n_lit, n_gLt, n_gLe, n_gEq, n_gEq2, n_gLe2, n_gLt2, n_m1, n_add, n_mul, n_lt, n_le, n_eq, n_cl, n_in, n_rem, n_mlt, n_mle, n_ltm, n_lem, n_eqm, n_meq, n_bit, n_shl, n_b0, n_b1, n_sub, n_inT, nT, nF, lT, lF, eT, eF, not_false_eq_true, not_true_eq_false, sI_at, sI_c, sI_j, aI_at, aI_c, sL_at, sL_c, sL_j, true_and, and_true, not_true_eq_false, not_false_eq_true, forall_const, true_implies, false_implies, implies_true, if_true, if_false, ite_true, ite_false, Bool.not_eq_true, Bool.not_eq_false, Bool.true_eq_false, Bool.false_eq_true, false_and, and_false, or_true, true_or, false_or, or_false, e3, eL, t1, t2, bto, Bool.toNat_false]
                exact g
              | true =>
                rw [ct] at nx0 nx1 bto
                cases cf : (swS v T (rdS v T a k) i).1 (v.fr i) with
                | true =>
                  rw [cf] at nx0 bf
                  have g := nx0 rfl
                  simp (disch := first | omega | assumption) only [n_lit, n_gLt, n_gLe, n_gEq, n_gEq2, n_gLe2, n_gLt2, n_m1, n_add, n_mul, n_lt, n_le, n_eq, n_cl, n_in, n_rem, n_mlt, n_mle, n_ltm, n_lem, n_eqm, n_meq, n_bit, n_shl, n_b0, n_b1, n_sub, n_inT, nT, nF, lT, lF, eT, eF, not_false_eq_true, not_true_eq_false, sI_at, sI_c, sI_j, aI_at, aI_c, sL_at, sL_c, sL_j, true_and, and_true, not_true_eq_false, not_false_eq_true, forall_const, true_implies, false_implies, implies_true, if_true, if_false, ite_true, ite_false, Bool.not_eq_true, Bool.not_eq_false, Bool.true_eq_false, Bool.false_eq_true, false_and, and_false, or_true, true_or, false_or, or_false, e3, eL, t1, t2, bto, bf, Bool.toNat_true]
                  exact g
                | false =>
                  rw [cf] at nx1 bf
                  have g := nx1 rfl
                  simp (disch := first | omega | assumption) only [n_lit, n_gLt, n_gLe, n_gEq, n_gEq2, n_gLe2, n_gLt2, n_m1, n_add, n_mul, n_lt, n_le, n_eq, n_cl, n_in, n_rem, n_mlt, n_mle, n_ltm, n_lem, n_eqm, n_meq, n_bit, n_shl, n_b0, n_b1, n_sub, n_inT, nT, nF, lT, lF, eT, eF, not_false_eq_true, not_true_eq_false, sI_at, sI_c, sI_j, aI_at, aI_c, sL_at, sL_c, sL_j, true_and, and_true, not_true_eq_false, not_false_eq_true, forall_const, true_implies, false_implies, implies_true, if_true, if_false, ite_true, ite_false, Bool.not_eq_true, Bool.not_eq_false, Bool.true_eq_false, Bool.false_eq_true, false_and, and_false, or_true, true_or, false_or, or_false, e3, eL, t1, t2, bto, bf, Bool.toNat_true, Bool.toNat_false]
                  exact g
            | false =>
              rw [cT] at eL nx0 nx1
              have eL : lg_cmp ((L 183 2 >>> ((nI i).toInt64 &&& 63)) &&& 1) 0 = nI 0 := eL
              rw [if_neg Bool.false_ne_true, if_neg Bool.false_ne_true] at nx0 nx1
              cases cf : (swS v T (rdS v T a k) i).1 (v.fr i) with
              | false =>
                rw [cf] at nx0 bf
                have g := nx0 rfl
                simp (disch := first | omega | assumption) only [n_lit, n_gLt, n_gLe, n_gEq, n_gEq2, n_gLe2, n_gLt2, n_m1, n_add, n_mul, n_lt, n_le, n_eq, n_cl, n_in, n_rem, n_mlt, n_mle, n_ltm, n_lem, n_eqm, n_meq, n_bit, n_shl, n_b0, n_b1, n_sub, n_inT, nT, nF, lT, lF, eT, eF, not_false_eq_true, not_true_eq_false, sI_at, sI_c, sI_j, aI_at, aI_c, sL_at, sL_c, sL_j, true_and, and_true, not_true_eq_false, not_false_eq_true, forall_const, true_implies, false_implies, implies_true, if_true, if_false, ite_true, ite_false, Bool.not_eq_true, Bool.not_eq_false, Bool.true_eq_false, Bool.false_eq_true, false_and, and_false, or_true, true_or, false_or, or_false, e3, eL, t1, t2, bf, Bool.toNat_false]
                exact g
              | true =>
                rw [cf] at nx0 nx1 bf
                cases ct : (swS v T (rdS v T a k) i).1 (v.to i) with
                | true =>
                  rw [ct] at nx0 bto
                  have g := nx0 rfl
                  simp (disch := first | omega | assumption) only [n_lit, n_gLt, n_gLe, n_gEq, n_gEq2, n_gLe2, n_gLt2, n_m1, n_add, n_mul, n_lt, n_le, n_eq, n_cl, n_in, n_rem, n_mlt, n_mle, n_ltm, n_lem, n_eqm, n_meq, n_bit, n_shl, n_b0, n_b1, n_sub, n_inT, nT, nF, lT, lF, eT, eF, not_false_eq_true, not_true_eq_false, sI_at, sI_c, sI_j, aI_at, aI_c, sL_at, sL_c, sL_j, true_and, and_true, not_true_eq_false, not_false_eq_true, forall_const, true_implies, false_implies, implies_true, if_true, if_false, ite_true, ite_false, Bool.not_eq_true, Bool.not_eq_false, Bool.true_eq_false, Bool.false_eq_true, false_and, and_false, or_true, true_or, false_or, or_false, e3, eL, t1, t2, bto, bf, Bool.toNat_true]
                  exact g
                | false =>
                  rw [ct] at nx1 bto
                  have g := nx1 rfl
                  simp (disch := first | omega | assumption) only [n_lit, n_gLt, n_gLe, n_gEq, n_gEq2, n_gLe2, n_gLt2, n_m1, n_add, n_mul, n_lt, n_le, n_eq, n_cl, n_in, n_rem, n_mlt, n_mle, n_ltm, n_lem, n_eqm, n_meq, n_bit, n_shl, n_b0, n_b1, n_sub, n_inT, nT, nF, lT, lF, eT, eF, not_false_eq_true, not_true_eq_false, sI_at, sI_c, sI_j, aI_at, aI_c, sL_at, sL_c, sL_j, true_and, and_true, not_true_eq_false, not_false_eq_true, forall_const, true_implies, false_implies, implies_true, if_true, if_false, ite_true, ite_false, Bool.not_eq_true, Bool.not_eq_false, Bool.true_eq_false, Bool.false_eq_true, false_and, and_false, or_true, true_or, false_or, or_false, e3, eL, t1, t2, bto, bf, Bool.toNat_true, Bool.toNat_false]
                  exact g
        exact sweep v.m 0 (by omega) I1 f1 c1
  have e0 : bI v.n (rdS v T a 0).1 = nI (2 ^ a) := (bI_of (by omega) (fun i hi => by
    rw [b_2p hi]
    show decide (a = i) = (decide (i < v.n) && decide (i = a))
    by_cases c : a = i
    · subst c
      rw [decide_eq_true rfl, decide_eq_true ha]
      rfl
    · rw [decide_eq_false c, show decide (i = a) = false from decide_eq_false (fun z => c z.symm), Bool.and_false])).symm
  have g := round 16 0 (by omega) (nI 0) I (fun _ _ => rfl) (fun p hp ha' => absurd (of_decide_eq_true hp) ha') (fun e => by
    rw [e0] at e
    have := congrArg (fun x => bt x a) e
    simp only [b_2p (show a < 32 by omega), b_0, decide_true] at this
    cases this)
  rw [e0] at g
  refine v_Ways_reached_0 ?_
  rw [show (1 : Int32) <<< (nI a &&& 31) = nI (2 ^ a) from n_shl (by omega)]
  exact g
theorem c_takeWay {v : Vil} {r a c : Nat} {T : Nat → Bool} {I : MI} {L : ML} (hv : v.ok 40) (hr : r + 6 < 36) (hV : vilC r v I) (ha : a < v.n) (hc : (spF v T a).1 c = true) (hT : ∀ k, k < 64 → bl (L 183 2) k = T k) (hC : cmC 184 a (spF v T a) I) {b : Bool} {K : Bool → MI → ML → Prop} (hK : ∀ L', (∀ x, x ≠ 183 → L' x = L x) → (∀ k, k < 64 → bl (L' 183 2) k = nxT v T a c k) → K b I L') : CV m_Ways_takeWay [vr 20 183, vr 19 r, vi (nI a), vi (nI c)] b I L K := by
  have hn := hv.1.2
  have hm := hv.2.1
  obtain ⟨dep, hD⟩ := spF_dep (T := T) hv ha
  have loop : ∀ f p U i, i + f = 16 → dep p < f → (spF v T a).1 p = true → (∀ q, (spF v T a).1 q = true → q ≠ a → dep q ≤ dep p → U ((spF v T a).2 q) = T ((spF v T a).2 q)) → ∀ L1 : ML, (∀ x, x ≠ 183 → L1 x = L x) → (∀ k, k < 64 → bl (L1 183 2) k = U k) → (∀ L', (∀ x, x ≠ 183 → L' x = L x) → (∀ k, k < 64 → bl (L' 183 2) k = wlkT v T (spF v T a) a f p U k) → K b I L') → SW m_Ways_takeWay 6 [vr 20 183, vr 19 r, vi (nI a), un, vi (nI p), vi (nI i), un] [] b I L1 (kV K) := by
    intro f
    induction f with
    | zero =>
      intro p U i _ h
      omega
    | succ f ih =>
      intro p U i hi hd hp hU L1 f1 g1 kk
      have hpn : p < v.n := (rdS_I (T := T) hv ha 16).2.1 p hp
      refine v_Ways_takeWay_6 ⟨fun z => absurd z (by rw [show (16 : Int32) = nI 16 from rfl, n_le (by omega) (by omega)]; omega), fun _ => ?_⟩
      rw [n_eq (by omega) (by omega)]
      refine ⟨fun z => ?_, fun z => ⟨?_, ?_⟩⟩
      · refine kk L1 f1 (fun k hk => ?_)
        show _ = (if p = a then U else wlkT v T (spF v T a) a f (asd v T ((spF v T a).2 p)) (tog U ((spF v T a).2 p))) k
        rw [if_pos z]
        exact g1 k hk
      · rw [n_in (by omega)]
        omega
      · obtain ⟨-, g⟩ := hD p hp
        obtain ⟨h1, h2, h3, h4⟩ := g z
        have ec := hC p hp z
        have hin : vp_in (nI ((spF v T a).2 p)) 41 := by
          rw [n_in (by omega)]
          omega
        have et : (nI ((spF v T a).2 p)).toNatClampNeg = (spF v T a).2 p := n_cl (by omega)
        obtain ⟨t1, t2, -⟩ := hV.2.2 _ h1
        rw [n_cl (by omega), ec, et, t1, t2, l_cmp (by omega), g1 _ (by omega), hU p hp z (Nat.le_refl _), show nI i + (1 : Int32) = nI (i + 1) from n_add i 1]
        have nx := ih (asd v T ((spF v T a).2 p)) (tog U ((spF v T a).2 p)) (i + 1) (by omega) (by omega) h3 (way_ne hD hp z hU) (sL L1 183 2 ((L1 183 2) ^^^ ((1 : Int64) <<< ((nI ((spF v T a).2 p)).toInt64 &&& 63)))) (fun x hx => by rw [sL_c hx, f1 x hx]) (fun k hk => by
          rw [sL_at, l_xor, g1 k hk, l_one (by omega) hk]
          show _ = if k = (spF v T a).2 p then !U k else U k
          by_cases c : k = (spF v T a).2 p
          · rw [if_pos c, decide_eq_true c, Bool.xor_true]
          · rw [if_neg c, decide_eq_false c, Bool.xor_false]) (fun L' q1 q2 => kk L' q1 (fun k hk => by
          rw [q2 k hk]
          show _ = (if p = a then U else wlkT v T (spF v T a) a f (asd v T ((spF v T a).2 p)) (tog U ((spF v T a).2 p))) k
          rw [if_neg z]))
        unfold asd at nx
        cases cT : T ((spF v T a).2 p) with
        | false =>
          rw [if_neg (by rw [cT]; exact Bool.false_ne_true)] at nx
          exact ⟨fun _ => ⟨hin, nx⟩, fun q => absurd rfl q⟩
        | true =>
          rw [if_pos cT] at nx
          exact ⟨fun q => absurd q (by decide), fun _ => ⟨hin, nx⟩⟩
  exact v_Ways_takeWay_0 (loop 16 c T 0 (by omega) (hD c hc).1 hc (fun _ _ _ _ => rfl) L (fun _ _ => rfl) hT hK)
theorem Tq_big {v : Vil} {a c : Nat} (hv : v.ok 40) (ha : a < v.n) : ∀ j, (∀ i, i < j → rcB v a c i = true) → ∀ k, v.m ≤ k → Tq v a c j k = false
  | 0, _, k, _ => rfl
  | j + 1, h, k, hk => by
    obtain ⟨dep, hD⟩ := spF_dep (T := Tq v a c j) hv ha
    have ih := Tq_big hv ha j (fun i hi => h i (by omega)) k hk
    have w : ∀ f p U, (spF v (Tq v a c j) a).1 p = true → U k = false → wlkT v (Tq v a c j) (spF v (Tq v a c j) a) a f p U k = false := by
      intro f
      induction f with
      | zero => exact fun p U _ hU => hU
      | succ f ihf =>
        intro p U hp hU
        show (if p = a then U else wlkT v (Tq v a c j) (spF v (Tq v a c j) a) a f (asd v (Tq v a c j) ((spF v (Tq v a c j) a).2 p)) (tog U ((spF v (Tq v a c j) a).2 p))) k = false
        by_cases e : p = a
        · rw [if_pos e]
          exact hU
        · rw [if_neg e]
          obtain ⟨-, g⟩ := hD p hp
          obtain ⟨g1, g2, g3, g4⟩ := g e
          refine ihf _ _ g3 ?_
          show (if k = (spF v (Tq v a c j) a).2 p then !U k else U k) = false
          rw [if_neg (by omega)]
          exact hU
    exact w 16 c _ (h j (by omega)) ih
theorem c_mostApart {v : Vil} {r a c N : Nat} {I : MI} {L : ML} (hv : v.ok 40) (hr : r + 6 < 36) (hV : vilC r v I) (ha : a < v.n) (hc : c < v.n) (hac : c ≠ a) (hN : N ≤ v.m) (h0 : rcB v a c N = false) (h1 : ∀ i, i < N → rcB v a c i = true) {b : Bool} {K : Int32 → Bool → MI → ML → Prop} (hK : ∀ I' L', (∀ x, x ≠ 184 → I' x = I x) → (∀ x, x ≠ 183 → L' x = L x) → (∀ k, k < 64 → bl (L' 183 2) k = Tq v a c N k) → K (nI N) b I' L') : CI m_Ways_mostApart [vr 20 183, vr 19 r, vi (nI a), vi (nI c)] b I L K := by
  have hn := hv.1.2
  have hm := hv.2.1
  have loop : ∀ n j, j + n = N → ∀ (I1 : MI) (L1 : ML), (∀ x, x ≠ 184 → I1 x = I x) → (∀ x, x ≠ 183 → L1 x = L x) → (∀ k, k < 64 → bl (L1 183 2) k = Tq v a c j k) → SW m_Ways_mostApart 8 [vr 20 183, vr 19 r, vi (nI a), vi (nI c), vi (nI j)] [] b I1 L1 (kI K) := by
    intro n
    induction n with
    | zero =>
      intro j hj I1 L1 f1 g1 b1
      obtain rfl : j = N := by omega
      have e3 : I1 r 3 = nI v.m := by rw [f1 r (by omega)]; exact hV.1.2.1
      have V1 : vilC r v I1 := vilC_fr (fun x q1 q2 => f1 x (by omega)) hV
      refine v_Ways_mostApart_8 ⟨fun _ => hK I1 L1 f1 g1 b1, fun z => c_reached (T := Tq v a c j) hv hr V1 ha (fun k hk => b1 k (by omega)) (fun I2 f2 _ => ?_)⟩
      show (((bI v.n (spF v (Tq v a c j) a).1 >>> (nI c &&& nI 31)) &&& nI 1 = nI 0 → _) ∧ (¬ (bI v.n (spF v (Tq v a c j) a).1 >>> (nI c &&& nI 31)) &&& nI 1 = nI 0 → _))
      rw [n_bit (by omega), bI_bit _ (by omega), decide_eq_true hc, Bool.true_and, show (spF v (Tq v a c j) a).1 c = false from h0]
      exact ⟨fun _ => hK I2 L1 (fun x hx => by rw [f2 x hx, f1 x hx]) g1 b1, fun q => absurd rfl q⟩
    | succ n ih =>
      intro j hj I1 L1 f1 g1 b1
      have e3 : I1 r 3 = nI v.m := by rw [f1 r (by omega)]; exact hV.1.2.1
      have V1 : vilC r v I1 := vilC_fr (fun x q1 q2 => f1 x (by omega)) hV
      have hr1 : (spF v (Tq v a c j) a).1 c = true := h1 j (by omega)
      refine v_Ways_mostApart_8 ⟨fun z => absurd z (by rw [e3, n_le (by omega) (by omega)]; omega), fun z => c_reached (T := Tq v a c j) hv hr V1 ha (fun k hk => b1 k (by omega)) (fun I2 f2 c2 => ?_)⟩
      show (((bI v.n (spF v (Tq v a c j) a).1 >>> (nI c &&& nI 31)) &&& nI 1 = nI 0 → _) ∧ (¬ (bI v.n (spF v (Tq v a c j) a).1 >>> (nI c &&& nI 31)) &&& nI 1 = nI 0 → _))
      rw [n_bit (by omega), bI_bit _ (by omega), decide_eq_true hc, Bool.true_and, hr1]
      refine ⟨fun q => absurd q (by decide), fun _ => ?_⟩
      refine c_takeWay (T := Tq v a c j) hv hr (vilC_fr (fun x q1 q2 => f2 x (by omega)) V1) ha hr1 b1 c2 (fun L3 f3 b3 => ?_)
      rw [show nI j + (1 : Int32) = nI (j + 1) from n_add j 1]
      exact ih (j + 1) (by omega) I2 L3 (fun x hx => by rw [f2 x hx, f1 x hx]) (fun x hx => by rw [f3 x hx, g1 x hx]) b3
  exact v_Ways_mostApart_0 (loop N 0 (by omega) I _ (fun _ _ => rfl) (fun x hx => sL_c hx) (fun k hk => by rw [sL_at, l_0]; rfl))
theorem c_cut {v : Vil} {r a c N : Nat} {I : MI} {L : ML} (hv : v.ok 40) (hr : r + 6 < 36) (hV : vilC r v I) (ha : a < v.n) (hc : c < v.n) (hac : c ≠ a) (hA : apO v a c = some N) (hN : N ≤ v.m) (h0 : rcB v a c N = false) (h1 : ∀ i, i < N → rcB v a c i = true) {b : Bool} {K : Int64 → Bool → MI → ML → Prop} (hK : ∀ y I' L', (∀ k, k < 64 → bl y k = cuB v a c k) → (∀ x, x ≠ 184 → I' x = I x) → K y b I' L') : CL m_Ways_nearestCut [vr 20 183, vr 19 r, vi (nI a), vi (nI c)] b I L K := by
  have hn := hv.1.2
  have hm := hv.2.1
  refine v_Ways_nearestCut_0 (c_mostApart hv hr hV ha hc hac hN h0 h1 (fun I1 L1 f1 g1 b1 => ?_))
  have V1 : vilC r v I1 := vilC_fr (fun x q1 q2 => f1 x (by omega)) hV
  refine c_reached (T := Tq v a c N) hv hr V1 ha (fun k hk => b1 k (by omega)) (fun I2 f2 _ => ?_)
  have fr : ∀ x, x ≠ 184 → I2 x = I x := fun x hx => by rw [f2 x hx, f1 x hx]
  have e3 : I2 r 3 = nI v.m := by rw [fr r (by omega)]; exact hV.1.2.1
  have loop : ∀ n i, i + n = v.m → ∀ y : Int64, (∀ k, k < 64 → bl y k = (decide (k < i) && cuB v a c k)) → SW m_Ways_nearestCut 22 [un, vr 19 r, un, un, vi (bI v.n (spF v (Tq v a c N) a).1), vl y, un, vi (nI i)] [] b I2 L1 (kL K) := by
    intro n
    induction n with
    | zero =>
      intro i hi y hy
      obtain rfl : i = v.m := by omega
      refine v_Ways_nearestCut_22 ⟨fun _ => hK y I2 L1 (fun k hk => ?_) fr, fun z => absurd (by rw [e3, n_le (by omega) (by omega)]; exact Nat.le_refl _) z⟩
      rw [hy k hk, cuB_eq hA]
      cases decide (k < v.m) <;> rfl
    | succ n ih =>
      intro i hi y hy
      obtain ⟨z1, z2, z3, -⟩ := hv.2.2.2.2.2.2 i (by omega)
      obtain ⟨t1, t2, -⟩ := hV.2.2 i (by omega)
      rw [← fr (r + 3) (by omega)] at t1
      rw [← fr (r + 4) (by omega)] at t2
      have ei : (nI i).toNatClampNeg = i := n_cl (by omega)
      have hin : vp_in (nI i) 41 := by
        rw [n_in (by omega)]
        omega
      have bf : ∀ q, q < v.n → (bI v.n (spF v (Tq v a c N) a).1 >>> (nI q &&& nI 31)) &&& nI 1 = nI ((spF v (Tq v a c N) a).1 q).toNat := fun q hq => by rw [n_bit (by omega), bI_bit _ (by omega), decide_eq_true hq, Bool.true_and]
      have eb : cuB v a c i = ((spF v (Tq v a c N) a).1 (v.fr i) && !(spF v (Tq v a c N) a).1 (v.to i)) := by rw [cuB_eq hA, decide_eq_true (by omega), Bool.true_and]
      have nx0 : cuB v a c i = false → SW m_Ways_nearestCut 22 [un, vr 19 r, un, un, vi (bI v.n (spF v (Tq v a c N) a).1), vl y, un, vi (nI (i + 1))] [] b I2 L1 (kL K) := fun e => ih (i + 1) (by omega) y (fun k hk => by
        rw [hy k hk]
        by_cases c : k = i
        · subst c
          rw [e, Bool.and_false, Bool.and_false]
        · congr 1
          exact decide_eq_decide.mpr ⟨fun _ => by omega, fun _ => by omega⟩)
      have nx1 : cuB v a c i = true → SW m_Ways_nearestCut 22 [un, vr 19 r, un, un, vi (bI v.n (spF v (Tq v a c N) a).1), vl (y ||| ((1 : Int64) <<< ((nI i).toInt64 &&& 63))), un, vi (nI (i + 1))] [] b I2 L1 (kL K) := fun e => ih (i + 1) (by omega) _ (fun k hk => by
        rw [l_or, hy k hk, l_one (by omega) hk]
        by_cases c : k = i
        · subst c
          rw [e, decide_eq_true rfl, Bool.or_true, decide_eq_true (by omega : k < k + 1)]
          rfl
        · rw [decide_eq_false c, Bool.or_false]
          congr 1
          exact decide_eq_decide.mpr ⟨fun _ => by omega, fun _ => by omega⟩)
      rw [eb] at nx0 nx1
      refine v_Ways_nearestCut_22 ⟨fun z => absurd z (by rw [e3, n_le (by omega) (by omega)]; omega), fun _ => ⟨hin, ?_⟩⟩
      rw [ei, t1, t2, show nI i + (1 : Int32) = nI (i + 1) from n_add i 1]
      show (((bI v.n (spF v (Tq v a c N) a).1 >>> (nI (v.fr i) &&& nI 31)) &&& nI 1 = nI 0 → _) ∧ (¬ (bI v.n (spF v (Tq v a c N) a).1 >>> (nI (v.fr i) &&& nI 31)) &&& nI 1 = nI 0 → (vp_in (nI i) 41 ∧ ((¬ (bI v.n (spF v (Tq v a c N) a).1 >>> (nI (v.to i) &&& nI 31)) &&& nI 1 = nI 0 → _) ∧ (¬ ¬ (bI v.n (spF v (Tq v a c N) a).1 >>> (nI (v.to i) &&& nI 31)) &&& nI 1 = nI 0 → _)))))
      rw [bf _ z1, bf _ z2, n_b0, n_b0]
      refine ⟨fun q => nx0 (by rw [q, Bool.false_and]), fun q => ⟨hin, fun p => nx0 ?_, fun p => nx1 ?_⟩⟩
      · cases e : (spF v (Tq v a c N) a).1 (v.to i) with
        | false => exact absurd e p
        | true => rw [Bool.not_true, Bool.and_false]
      · rw [Decidable.not_not.mp p]
        cases e : (spF v (Tq v a c N) a).1 (v.fr i) with
        | false => exact absurd e q
        | true => rfl
  exact loop v.m 0 (by omega) 0 (fun k hk => by rw [l_0, decide_eq_false (Nat.not_lt_zero k), Bool.false_and])
