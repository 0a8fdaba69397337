/-! WAYS: reach -/
theorem c_forward {v : Vil} {r a : Nat} {I : MI} {L : ML} (hv : v.ok 40) (hr : r + 6 < 36) (hV : vilC r v I) (ha : a < v.n) {b : Bool} {K : Int32 → Bool → MI → ML → Prop} (hK : ∀ I' L', (∀ x, x ≠ 184 → I' x = I x) → K (bI v.n (spF v noT a).1) b I' L') : CI m_Ways_forward [vr 20 183, vr 19 r, vi (nI a)] b I L K :=
  v_Ways_forward_0 (c_reached (T := noT) hv hr hV ha (fun k hk => by rw [sL_at, l_0]; rfl) (fun I' f _ => hK I' _ f))
theorem c_backward {v : Vil} {r a : Nat} {I : MI} {L : ML} (hv : v.ok 40) (hr : r + 6 < 36) (hV : vilC r v I) (ha : a < v.n) {b : Bool} {K : Int32 → Bool → MI → ML → Prop} (hK : ∀ I' L', (∀ x, x ≠ 184 → I' x = I x) → K (bI v.n (spF v alT a).1) b I' L') : CI m_Ways_backward [vr 20 183, vr 19 r, vi (nI a)] b I L K := by
  have hm := hv.2.1
  exact v_Ways_backward_0 (c_reached (T := alT) hv hr hV ha (fun k hk => by rw [sL_at, l_m1 k (by omega)]; rfl) (fun I' f _ => hK I' _ f))
def stE (v : Vil) (p : Nat) : Nat → Nat := sumN (fun t => if v.to t = p then v.st t else 0)
theorem c_strengthTo {v : Vil} {r p : Nat} {I : MI} (hv : v.ok 40) (hV : vilC r v I) (hp : p < v.n) {b : Bool} {L : ML} {K : Int32 → Bool → MI → ML → Prop} (hK : K (nI (stE v p v.m)) b I L) : CI m_Village_strengthTo [vr 19 r, vi (nI p)] b I L K := by
  have hn := hv.1.2
  have hm := hv.2.1
  have e3 := hV.1.2.1
  have loop : ∀ n i, i + n = v.m → SW m_Village_strengthTo 4 [vr 19 r, vi (nI p), vi (nI (stE v p i)), vi (nI i)] [] b I L (kI K) := by
    intro n
    induction n with
    | zero =>
      intro i hi
      obtain rfl : i = v.m := by omega
      exact v_Village_strengthTo_4 ⟨fun _ => hK, fun z => absurd (by rw [e3, n_le (by omega) (by omega)]; exact Nat.le_refl _) z⟩
    | succ n ih =>
      intro i hi
      obtain ⟨z1, z2, z3, -⟩ := hv.2.2.2.2.2.2 i (by omega)
      obtain ⟨t1, t2, t3, t4⟩ := hV.2.2 i (by omega)
      have ei : (nI i).toNatClampNeg = i := n_cl (by omega)
      have hin : vp_in (nI i) 41 := by
        rw [n_in (by omega)]
        omega
      have nx := ih (i + 1) (by omega)
      have es : stE v p (i + 1) = stE v p i + (if v.to i = p then v.st i else 0) := rfl
      rw [es] at nx
      refine v_Village_strengthTo_4 ⟨fun z => absurd z (by rw [e3, n_le (by omega) (by omega)]; omega), fun _ => ⟨hin, ?_⟩⟩
      rw [ei, t2, t4, n_eq (by omega) (by omega), show nI i + (1 : Int32) = nI (i + 1) from n_add i 1, n_add]
      refine ⟨fun q => ?_, fun q => ⟨hin, ?_⟩⟩
      · rw [if_neg q, Nat.add_zero] at nx
        exact nx
      · rw [if_pos (Decidable.not_not.mp q)] at nx
        exact nx
  exact v_Village_strengthTo_0 (loop v.m 0 (by omega))
theorem cm_strength {v : Vil} {o p : Nat} {I : MI} (W : VM v o I) (hp : p < v.n) {b : Bool} {L : ML} {K : Int32 → Bool → MI → ML → Prop} (hK : K (nI (stE v p v.m)) b I L) : SW m_M_reach 48 [vr 22 186, un, vi (nI p), un, vi (nI 0), vi (nI 0), un] [] b I L (kI K) := by
  have hv := W.1
  have hn := hv.1.2
  have hm := hv.2.1
  have loop : ∀ n i, i + n = v.m → SW m_M_reach 48 [vr 22 186, un, vi (nI p), un, vi (nI (stE v p i)), vi (nI i), un] [] b I L (kI K) := by
    intro n
    induction n with
    | zero =>
      intro i hi
      obtain rfl : i = v.m := by omega
      exact v_M_reach_48 (vm_ties W ⟨fun _ => hK, fun z => absurd (by rw [n_le (by omega) (by omega)]; exact Nat.le_refl _) z⟩)
    | succ n ih =>
      intro i hi
      obtain ⟨z1, z2, z3, -⟩ := hv.2.2.2.2.2.2 i (by omega)
      have nx := ih (i + 1) (by omega)
      have es : stE v p (i + 1) = stE v p i + (if v.to i = p then v.st i else 0) := rfl
      rw [es] at nx
      refine v_M_reach_48 (vm_ties W ⟨fun z => absurd z (by rw [n_le (by omega) (by omega)]; omega), fun _ => vm_tieOf (k := i) (q := 1) W (by omega) (by omega) ?_⟩)
      rw [if_neg (by omega), if_pos rfl, n_eq (by omega) (by omega), show nI i + (1 : Int32) = nI (i + 1) from n_add i 1]
      refine ⟨fun q => ?_, fun q => vm_tieOf (k := i) (q := 3) W (by omega) (by omega) ?_⟩
      · rw [if_neg q, ← n_add] at nx
        exact nx
      · rw [if_neg (by omega), if_neg (by omega), if_neg (by omega), n_add]
        rw [if_pos (Decidable.not_not.mp q)] at nx
        exact nx
  exact loop v.m 0 (by omega)
theorem cm_reachOf {v : Vil} {o a : Nat} {I : MI} {L : ML} (W : VM v o I) (ha : a < v.n) {b : Bool} {K : Int32 → Bool → MI → ML → Prop} (hK : ∀ I', wfr I I' → K (bI v.n (spF v noT a).1) b I' L) : CI m_M_reachOf [vr 22 186, vi (nI a)] b I L K := by
  have hv := W.1
  have hn := hv.1.2
  have gather : ∀ I1 : MI, wfr I I1 → metP (spF v noT a) I1 → ∀ n q, q + n = v.n → SW m_M_reachOf 30 [vr 22 186, un, vi (bI v.n (fun p => decide (p < q) && (spF v noT a).1 p)), vi (nI q)] [] b I1 L (kI K) := by
    intro I1 f1 m1 n
    induction n with
    | zero =>
      intro q hq
      obtain rfl : q = v.n := by omega
      refine v_M_reachOf_30 (vm_people (W.wfr f1) ⟨fun _ => ?_, fun z => absurd (by rw [n_le (by omega) (by omega)]; exact Nat.le_refl _) z⟩)
      rw [bI_cong (n := v.n) (f := fun p => decide (p < v.n) && (spF v noT a).1 p) (g := (spF v noT a).1) (fun i hi => by rw [decide_eq_true hi, Bool.true_and])]
      exact hK I1 f1
    | succ n ih =>
      intro q hq
      have nx := ih (q + 1) (by omega)
      have eq : (nI q).toNatClampNeg = q := n_cl (by omega)
      refine v_M_reachOf_30 (vm_people (W.wfr f1) ⟨fun z => absurd z (by rw [n_le (by omega) (by omega)]; omega), fun _ => ⟨by rw [n_in (by omega)]; omega, ?_⟩⟩)
      rw [eq, m1 q (by omega), show nI q + (1 : Int32) = nI (q + 1) from n_add q 1, show (1 : Int32) <<< (nI q &&& 31) = nI (2 ^ q) from n_shl (by omega), or_bit (n := v.n) (by omega) (show q < v.n by omega) rfl]
      cases c : (spF v noT a).1 q with
      | false =>
        refine ⟨fun _ => ?_, fun z => absurd rfl z⟩
        rw [show bI v.n (fun p => decide (p < q) && (spF v noT a).1 p) ||| (0 : Int32) = bI v.n (fun p => decide (p < q) && (spF v noT a).1 p) from b_ext (fun j _ => by rw [b_or, b_0', Bool.or_false])]
        rw [bI_cong (n := v.n) (f := fun p => decide (p < q + 1) && (spF v noT a).1 p) (g := fun p => decide (p < q) && (spF v noT a).1 p) (fun i _ => by
          by_cases e : i = q
          · rw [e, c, Bool.and_false, Bool.and_false]
          · congr 1
            exact decide_eq_decide.mpr ⟨fun _ => by omega, fun _ => by omega⟩)] at nx
        exact nx
      | true =>
        refine ⟨fun z => absurd z (by decide), fun _ => ?_⟩
        rw [bI_cong (n := v.n) (f := fun p => decide (p < q + 1) && (spF v noT a).1 p) (g := fun i => (decide (i < q) && (spF v noT a).1 i) || decide (q = i)) (fun i _ => by
          by_cases e : i = q
          · subst e
            rw [c, decide_eq_true rfl, Bool.or_true, decide_eq_true (by omega : i < i + 1)]
            rfl
          · rw [show decide (q = i) = false from decide_eq_false (fun z => e z.symm), Bool.or_false]
            congr 1
            exact decide_eq_decide.mpr ⟨fun _ => by omega, fun _ => by omega⟩)] at nx
        exact nx
  have start : ∀ n k, k + n = 40 → ∀ I1 : MI, (∀ x, x ≠ 202 → I1 x = I x) → (∀ q, q < k → I1 202 q = nI 0) → SW m_M_reachOf 2 [vr 22 186, vi (nI a), vi (nI k), un] [] b I1 L (kI K) := by
    intro n
    induction n with
    | zero =>
      intro k hk I1 f1 g1
      obtain rfl : k = 40 := by omega
      have fr : wfr I I1 := fun x q1 _ _ => f1 x q1
      refine v_M_reachOf_2 ⟨fun _ => cm_spreads (T := noT) (W.wfr fr) ha g1 (fun I3 f3 m3 _ => ?_), fun z => absurd (by decide) z⟩
      have g := gather I3 (fr.trans (fun x q1 q2 q3 => f3 x q2 q3)) m3 v.n 0 (by omega)
      rw [show bI v.n (fun p => decide (p < 0) && (spF v noT a).1 p) = nI 0 from b_ext (fun i hi => by
        rw [bI_bit _ (by omega), b_0, decide_eq_false (Nat.not_lt_zero i), Bool.false_and, Bool.and_false])] at g
      exact g
    | succ n ih =>
      intro k hk I1 f1 g1
      have hin40 : vp_in (nI k) 40 := by
        rw [n_in (by omega)]
        omega
      have ek : (nI k).toNatClampNeg = k := n_cl (by omega)
      refine v_M_reachOf_2 ⟨fun z => absurd z (by rw [show (40 : Int32) = nI 40 from rfl, n_le (by omega) (by omega)]; omega), fun _ => ⟨⟨hin40, Or.inl rfl⟩, ?_⟩⟩
      rw [ek, show nI k + (1 : Int32) = nI (k + 1) from n_add k 1]
      refine ih (k + 1) (by omega) _ (fun x hx => by rw [sI_c hx, f1 x hx]) (fun q hq => ?_)
      by_cases e : q = k
      · rw [e, sI_at]
        rfl
      · rw [sI_j e]
        exact g1 q (by omega)
  exact v_M_reachOf_0 (start 40 0 (by omega) I (fun _ _ => rfl) (fun q hq => absurd hq (Nat.not_lt_zero _)))
def coB (v : Vil) (a p : Nat) : Bool := (spF v noT a).1 p && (spF v alT a).1 p
theorem cm_core {v : Vil} {o a : Nat} {I : MI} {L : ML} (W : VM v o I) (ha : a < v.n) {b : Bool} {K : Int32 → Bool → MI → ML → Prop} (hK : ∀ I', wfr I I' → K (bI v.n (coB v a)) b I' L) : SW m_M_reach 103 [vr 22 186, un, vi (nI a), un, vi (nI 0), vi (bI v.n (spF v noT a).1), vi (nI 0)] [] b I L (kI K) := by
  have hv := W.1
  have hn := hv.1.2
  have loop : ∀ n q, q + n = v.n → ∀ I1 : MI, wfr I I1 → SW m_M_reach 103 [vr 22 186, un, vi (nI a), un, vi (bI v.n (fun p => decide (p < q) && coB v a p)), vi (bI v.n (spF v noT a).1), vi (nI q)] [] b I1 L (kI K) := by
    intro n
    induction n with
    | zero =>
      intro q hq I1 f1
      obtain rfl : q = v.n := by omega
      refine v_M_reach_103 (vm_people (W.wfr f1) ⟨fun _ => ?_, fun z => absurd (by rw [n_le (by omega) (by omega)]; exact Nat.le_refl _) z⟩)
      rw [bI_cong (n := v.n) (f := fun p => decide (p < v.n) && coB v a p) (g := coB v a) (fun i hi => by rw [decide_eq_true hi, Bool.true_and])]
      exact hK I1 f1
    | succ n ih =>
      intro q hq I1 f1
      have hqn : q < v.n := by omega
      have nx := fun I1 => ih (q + 1) (by omega) I1
      have nx0 : coB v a q = false → ∀ I1 : MI, wfr I I1 → SW m_M_reach 103 [vr 22 186, un, vi (nI a), un, vi (bI v.n (fun p => decide (p < q) && coB v a p) ||| (0 : Int32)), vi (bI v.n (spF v noT a).1), vi (nI (q + 1))] [] b I1 L (kI K) := fun c I1 f1 => by
        have nx := nx I1 f1
        rw [show bI v.n (fun p => decide (p < q) && coB v a p) ||| (0 : Int32) = bI v.n (fun p => decide (p < q) && coB v a p) from b_ext (fun j _ => by rw [b_or, b_0', Bool.or_false])]
        rw [bI_cong (n := v.n) (f := fun p => decide (p < q + 1) && coB v a p) (g := fun p => decide (p < q) && coB v a p) (fun i _ => by
          by_cases e : i = q
          · rw [e, c, Bool.and_false, Bool.and_false]
          · congr 1
            exact decide_eq_decide.mpr ⟨fun _ => by omega, fun _ => by omega⟩)] at nx
        exact nx
      have nx1 : coB v a q = true → ∀ I1 : MI, wfr I I1 → SW m_M_reach 103 [vr 22 186, un, vi (nI a), un, vi (bI v.n (fun p => decide (p < q) && coB v a p) ||| nI (2 ^ q)), vi (bI v.n (spF v noT a).1), vi (nI (q + 1))] [] b I1 L (kI K) := fun c I1 f1 => by
        have nx := nx I1 f1
        rw [or_bit (n := v.n) (by omega) hqn rfl]
        rw [bI_cong (n := v.n) (f := fun p => decide (p < q + 1) && coB v a p) (g := fun i => (decide (i < q) && coB v a i) || decide (q = i)) (fun i _ => by
          by_cases e : i = q
          · subst e
            rw [c, decide_eq_true rfl, Bool.or_true, decide_eq_true (by omega : i < i + 1)]
            rfl
          · rw [show decide (q = i) = false from decide_eq_false (fun z => e z.symm), Bool.or_false]
            congr 1
            exact decide_eq_decide.mpr ⟨fun _ => by omega, fun _ => by omega⟩)] at nx
        exact nx
      refine v_M_reach_103 (vm_people (W.wfr f1) ⟨fun z => absurd z (by rw [n_le (by omega) (by omega)]; omega), fun _ => ?_⟩)
      rw [show nI q + (1 : Int32) = nI (q + 1) from n_add q 1, show (1 : Int32) <<< (nI q &&& 31) = nI (2 ^ q) from n_shl (by omega)]
      show (¬ (bI v.n (spF v noT a).1 >>> (nI q &&& nI 31)) &&& nI 1 = nI 1 → _) ∧ (¬ ¬ (bI v.n (spF v noT a).1 >>> (nI q &&& nI 31)) &&& nI 1 = nI 1 → _)
      rw [n_bit (by omega), bI_bit _ (by omega), decide_eq_true hqn, Bool.true_and, n_b1]
      refine ⟨fun c => nx0 ?_ I1 f1, fun c => cm_reachOf (W.wfr f1) hqn (fun I2 f2 => ?_)⟩
      · unfold coB
        cases z : (spF v noT a).1 q with
        | true => exact absurd z c
        | false => rfl
      · have c := Decidable.not_not.mp c
        have fr : wfr I I2 := f1.trans f2
        show (¬ (bI v.n (spF v noT q).1 >>> (nI a &&& nI 31)) &&& nI 1 = nI 1 → _) ∧ (¬ ¬ (bI v.n (spF v noT q).1 >>> (nI a &&& nI 31)) &&& nI 1 = nI 1 → _)
        rw [n_bit (by omega), bI_bit _ (by omega), decide_eq_true ha, Bool.true_and, n_b1, spF_back hv ha hqn]
        refine ⟨fun d => nx0 ?_ I2 fr, fun d => nx1 ?_ I2 fr⟩
        · unfold coB
          rw [c, Bool.true_and]
          cases z : (spF v alT a).1 q with
          | true => exact absurd z d
          | false => rfl
        · unfold coB
          rw [c, Decidable.not_not.mp d]
          rfl
  have g := loop v.n 0 (by omega) I (fun _ _ _ _ => rfl)
  rw [show bI v.n (fun p => decide (p < 0) && coB v a p) = nI 0 from b_ext (fun i hi => by
    rw [bI_bit _ (by omega), b_0, decide_eq_false (Nat.not_lt_zero i), Bool.false_and, Bool.and_false])] at g
  exact g
def qRe (v : Vil) (p : Nat) (w : Nat) : Int32 := if w = 0 then bI v.n (spF v noT p).1 else if w = 1 then bI v.n (coB v p) else nI (stE v p v.m)
theorem op_reach : H_reach := by
  intro a1 a2 a3
  refine Op2.q (fun B => if (hpB B a1 a2 && inR a3 3) = true then qRe (B.vl a1.toNatClampNeg) a2.toNatClampNeg a3.toNatClampNeg else nM) (fun B I b L K ok hc k => ?_) (fun B I b L K ok hm k => ?_)
  · refine v_S_reach_0 (c_hasPerson ok hc (fun g => ?_) (fun g => ?_))
    · have g' := g
      unfold hpB at g'
      rw [Bool.and_eq_true] at g'
      obtain ⟨v1, v2, v3, v4⟩ := c_vil ok hc g'.1
      have hn := v2.1.2
      obtain ⟨p, hp, rfl⟩ := (inR_iff (by omega)).mp g'.2
      rw [g, Bool.true_and, n_cl (by omega)] at k
      refine ⟨fun _ => ⟨v1, ?_⟩, fun z => absurd (by decide) z⟩
      cases g3 : inR a3 3 with
      | true =>
        obtain ⟨w, hw, rfl⟩ := (inR_iff (by decide)).mp g3
        rw [if_pos g3, n_cl (by omega)] at k
        rcases (by omega : w = 0 ∨ w = 1 ∨ w = 2) with rfl | rfl | rfl
        · exact ⟨fun _ => c_forward v2 v3 v4 hp (fun I' L' f => k b I' L' (fun a ha => f a (by omega))), fun z => absurd rfl z⟩
        · refine ⟨fun z => absurd z (by decide), fun _ => ⟨fun _ => c_forward v2 v3 v4 hp (fun I1 L1 f1 => ?_), fun z => absurd rfl z⟩⟩
          refine c_backward v2 v3 (vilC_fr (fun x q1 q2 => f1 x (by omega)) v4) hp (fun I2 L2 f2 => ?_)
          have kk := k b I2 L2 (fun a ha => by rw [f2 a (by omega), f1 a (by omega)])
          rw [show bI (B.vl a1.toNatClampNeg).n (spF (B.vl a1.toNatClampNeg) noT p).1 &&& bI (B.vl a1.toNatClampNeg).n (spF (B.vl a1.toNatClampNeg) alT p).1 = bI (B.vl a1.toNatClampNeg).n (coB (B.vl a1.toNatClampNeg) p) from bI_of (by omega) (fun i hi => by
            rw [b_and, bI_bit _ (by omega), bI_bit _ (by omega)]
            unfold coB
            cases decide (i < (B.vl a1.toNatClampNeg).n) <;> rfl)]
          exact kk
        · exact ⟨fun z => absurd z (by decide), fun _ => ⟨fun z => absurd z (by decide), fun _ => ⟨fun _ => c_strengthTo v2 v4 hp (k b I L (fun _ _ => rfl)), fun z => absurd rfl z⟩⟩⟩
      | false =>
        have kk := k b I L (fun _ _ => rfl)
        rw [if_neg (by rw [g3]; exact Bool.false_ne_true)] at kk
        have ne : ∀ w, w < 3 → ¬ a3 = nI w := fun w hw e => by
          rw [(inR_iff (by decide)).mpr ⟨w, hw, e⟩] at g3
          cases g3
        exact ⟨fun z => absurd z (ne 0 (by omega)), fun _ => ⟨fun z => absurd z (ne 1 (by omega)), fun _ => ⟨fun z => absurd z (ne 2 (by omega)), fun _ => kk⟩⟩⟩
    · have kk := k b I L (fun _ _ => rfl)
      rw [g, Bool.false_and] at kk
      exact ⟨fun z => absurd rfl z, fun _ => kk⟩
  · unfold hpB at k
    refine v_M_reach_0 (cm_isVillage ok hm (fun g1 I1 o f1 W1 => ?_) (fun g1 => ?_))
    · have hn := W1.1.1.2
      rw [g1, Bool.true_and] at k
      refine ⟨fun z => absurd z (by decide), fun _ => vm_isPerson W1 (fun g2 => ?_) (fun g2 => ?_)⟩
      · obtain ⟨p, hp, rfl⟩ := (inR_iff (by omega)).mp g2
        rw [g2, Bool.true_and, n_cl (by omega)] at k
        refine ⟨fun z => absurd z (by decide), fun _ => cm_isIn0 (n := 2) (by decide) (fun g3 => ?_) (fun g3 => ?_)⟩
        · obtain ⟨w, hw, rfl⟩ := (inR_iff (by decide)).mp g3
          rw [if_pos g3, n_cl (by omega)] at k
          refine ⟨fun _ => ?_, fun z => absurd (by decide) z⟩
          have k2 : ∀ I' : MI, wfr I1 I' → K (qRe (B.vl a1.toNatClampNeg) p w) b I' L := fun I' f => k b I' L (fun a ha => by rw [f a (by omega) (by omega) (by omega), f1 a (by omega)])
          rcases (by omega : w = 0 ∨ w = 1 ∨ w = 2) with rfl | rfl | rfl
          · exact ⟨fun z => absurd rfl z, fun _ => cm_reachOf W1 hp k2⟩
          · exact ⟨fun _ => ⟨fun _ => cm_reachOf W1 hp (fun I2 f2 => cm_core (W1.wfr f2) hp (fun I3 f3 => k2 I3 (f2.trans f3))), fun z => absurd (by decide) z⟩, fun z => absurd (by decide) z⟩
          · exact ⟨fun _ => ⟨fun z => absurd rfl z, fun _ => cm_strength W1 hp (k2 I1 (fun _ _ _ _ => rfl))⟩, fun z => absurd (by decide) z⟩
        · have kk := k b I1 L (fun a ha => f1 a (by omega))
          rw [if_neg (by rw [g3]; exact Bool.false_ne_true)] at kk
          exact ⟨fun z => absurd rfl z, fun _ => kk⟩
      · have kk := k b I1 L (fun a ha => f1 a (by omega))
        rw [g2, Bool.false_and] at kk
        exact ⟨fun _ => kk, fun z => absurd rfl z⟩
    · have kk := k b I L (fun _ _ => rfl)
      rw [g1, Bool.false_and, Bool.false_and] at kk
      exact ⟨fun _ => kk, fun z => absurd rfl z⟩
