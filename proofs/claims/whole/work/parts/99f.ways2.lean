/-! WAYS: the reference's numbers; apart, cut -/
def metP (s : Sp) (I : MI) : Prop := ∀ p, p < 16 → I 203 p = nI (s.1 p).toNat
def tkP (T : Nat → Bool) (I : MI) : Prop := ∀ k, k < 40 → I 202 k = nI (T k).toNat
def wfr (I I' : MI) : Prop := ∀ x, x ≠ 202 → x ≠ 203 → x ≠ 204 → I' x = I x
theorem wfr.trans {I I' I'' : MI} (h : wfr I I') (k : wfr I' I'') : wfr I I'' := fun x q1 q2 q3 => (k x q1 q2 q3).trans (h x q1 q2 q3)
theorem VM.wfr {v : Vil} {o : Nat} {I I' : MI} (h : VM v o I) (k : wfr I I') : VM v o I' := h.fr (by rw [k 186 (by omega) (by omega) (by omega)]) (k 187 (by omega) (by omega) (by omega))
theorem tst_met {v : Vil} {T : Nat → Bool} {s : Sp} {t : Nat} {I : MI} (h : trg v T s t = true) (k : metP s I) : metP (tst v T s t) (sI I 203 (bsd v T t) (nI 1)) := by
  rw [tst_t h]
  intro p hp
  show _ = nI (s.1 p || decide (p = bsd v T t)).toNat
  by_cases e : p = bsd v T t
  · rw [e, sI_at, decide_eq_true rfl, Bool.or_true]
    rfl
  · rw [sI_j e, decide_eq_false e, Bool.or_false]
    exact k p hp
theorem cm_spreads {v : Vil} {o a : Nat} {T : Nat → Bool} {I : MI} {L : ML} (W : VM v o I) (ha : a < v.n) (hT : tkP T I) {b : Bool} {K : Bool → MI → ML → Prop} (hK : ∀ I', (∀ x, x ≠ 203 → x ≠ 204 → I' x = I x) → metP (spF v T a) I' → cmC 204 a (spF v T a) I' → K b I' L) : CV m_M_spreads [vr 22 186, vi (nI a)] b I L K := by
  have hv := W.1
  have hn := hv.1.2
  have hm := hv.2.1
  have round : ∀ n k, k + n = 16 → (∀ j, j < k → spC v T (rdS v T a j) v.m = true) → ∀ I1 : MI, (∀ x, x ≠ 203 → x ≠ 204 → I1 x = I x) → metP (rdS v T a k) I1 → cmC 204 a (rdS v T a k) I1 → SW m_M_spreads 39 [vr 22 186, un, vi (nI 1), un, un, un] [] b I1 L (kV K) := by
    intro n
    induction n with
    | zero =>
      intro k hk hch
      exfalso
      have := rdS_cnt hv ha k hch
      have := cntB_le (rdS v T a k).1 v.n
      omega
    | succ n ih =>
      intro k hk hch I1 f1 m1 c1
      refine v_M_spreads_39 ⟨fun q => absurd q (by decide), fun _ => ?_⟩
      have sweep : ∀ m i, i + m = v.m → ∀ I2 : MI, (∀ x, x ≠ 203 → x ≠ 204 → I2 x = I x) → metP (swS v T (rdS v T a k) i) I2 → cmC 204 a (swS v T (rdS v T a k) i) I2 → SW m_M_spreads 47 [vr 22 186, un, vi (nI (spC v T (rdS v T a k) i).toNat), vi (nI i), un, un] [] b I2 L (kV K) := by
        intro m
        induction m with
        | zero =>
          intro i hi I2 f2 m2 c2
          obtain rfl : i = v.m := by omega
          have W2 : VM v o I2 := W.fr (by rw [f2 186 (by omega) (by omega)]) (f2 187 (by omega) (by omega))
          refine v_M_spreads_47 (vm_ties W2 ⟨fun _ => ?_, fun z => absurd (by rw [n_le (by omega) (by omega)]; exact Nat.le_refl _) z⟩)
          cases c : spC v T (rdS v T a k) v.m with
          | true =>
            refine ih (k + 1) (by omega) (fun j hj => ?_) I2 f2 m2 c2
            by_cases e : j = k
            · rw [e]
              exact c
            · exact hch j (by omega)
          | false =>
            have st := (spC_f v.m c).1
            have ef : spF v T a = rdS v T a k := rdS_spF (by omega) st
            rw [st] at m2 c2
            rw [← ef] at m2 c2
            exact v_M_spreads_39 ⟨fun _ => hK I2 f2 m2 c2, fun q => absurd rfl q⟩
        | succ m ihm =>
          intro i hi I2 f2 m2 c2
          have W2 : VM v o I2 := W.fr (by rw [f2 186 (by omega) (by omega)]) (f2 187 (by omega) (by omega))
          obtain ⟨z1, z2, z3, -⟩ := hv.2.2.2.2.2.2 i (by omega)
          have hb := (sd_lt hv T (t := i) (by omega)).2
          have e202 : I2 202 i = nI (T i).toNat := by rw [f2 202 (by omega) (by omega)]; exact hT i (by omega)
          have ei : (nI i).toNatClampNeg = i := n_cl (by omega)
          have hin : vp_in (nI i) 40 := by
            rw [n_in (by omega)]
            omega
          have hin2 : ∀ q, q < v.n → vp_in (nI q) 16 := fun q hq => by
            rw [n_in (by omega)]
            omega
          have ec : ∀ q, q < v.n → (nI q).toNatClampNeg = q := fun q hq => n_cl (by omega)
          have em := fun q (hq : q < v.n) => m2 q (by omega)
          have sb1 : nI (v.fr i) + nI (v.to i) - nI (v.fr i) = nI (v.to i) := by rw [n_add, n_sub (by omega)]; congr 1; omega
          have sb2 : nI (v.fr i) + nI (v.to i) - nI (v.to i) = nI (v.fr i) := by rw [n_add, n_sub (by omega)]; congr 1; omega
          have nx0 : trg v T (swS v T (rdS v T a k) i) i = false → SW m_M_spreads 47 [vr 22 186, un, vi (nI (spC v T (rdS v T a k) i).toNat), vi (nI (i + 1)), un, un] [] b I2 L (kV K) := fun c => by
            have es : swS v T (rdS v T a k) (i + 1) = swS v T (rdS v T a k) i := tst_f c
            have eq : spC v T (rdS v T a k) (i + 1) = spC v T (rdS v T a k) i := by
              show (_ || trg v T (swS v T (rdS v T a k) i) i) = _
              rw [c, Bool.or_false]
            have g := ihm (i + 1) (by omega) I2 f2
            rw [es, eq] at g
            exact g m2 c2
          have nx1 : trg v T (swS v T (rdS v T a k) i) i = true → SW m_M_spreads 47 [vr 22 186, un, vi (nI 1), vi (nI (i + 1)), un, un] [] b (sI (sI I2 203 (bsd v T i) (nI 1)) 204 (bsd v T i) (nI i)) L (kV K) := fun c => by
            have eq : spC v T (rdS v T a k) (i + 1) = true := by
              show (_ || trg v T (swS v T (rdS v T a k) i) i) = _
              rw [c, Bool.or_true]
            have g := ihm (i + 1) (by omega) (sI (sI I2 203 (bsd v T i) (nI 1)) 204 (bsd v T i) (nI i)) (fun x q1 q2 => by rw [sI_c q2, sI_c q1, f2 x q1 q2])
            rw [eq] at g
            refine g (fun p hp => ?_) ?_
            · rw [sI_c (by omega)]
              exact tst_met c m2 p hp
            · exact tst_cm (I := sI I2 203 (bsd v T i) (nI 1)) c (fun p h1 h2 => by rw [sI_c (by omega)]; exact c2 p h1 h2)
          unfold trg asd bsd at nx0 nx1
          refine v_M_spreads_47 (vm_ties W2 ⟨fun z => absurd z (by rw [n_le (by omega) (by omega)]; omega), fun _ => ⟨hin, ?_⟩⟩)
          rw [ei, e202, show nI i + (1 : Int32) = nI (i + 1) from n_add i 1]
          cases cT : T i with
          | true =>
            rw [if_pos cT, if_pos cT] at nx0 nx1
            refine ⟨fun q => absurd q (by decide), fun _ => vm_tieOf (k := i) (q := 1) W2 (by omega) (by omega) (vm_tieOf (k := i) (q := 0) W2 (by omega) (by omega) (vm_tieOf (k := i) (q := 1) W2 (by omega) (by omega) ?_))⟩
            rw [if_neg (by omega), if_pos rfl, if_pos rfl]
            refine ⟨hin2 _ z2, ?_⟩
            rw [ec _ z2, em _ z2, sb2, ec _ z1, em _ z1]
            cases ct : (swS v T (rdS v T a k) i).1 (v.to i) with
            | false => exact ⟨fun _ => nx0 (by rw [ct]; rfl), fun q => absurd rfl q⟩
            | true =>
              refine ⟨fun q => absurd q (by decide), fun _ => ⟨hin2 _ z1, ?_⟩⟩
              cases cf : (swS v T (rdS v T a k) i).1 (v.fr i) with
              | true => exact ⟨fun q => absurd q (by decide), fun _ => nx0 (by rw [ct, cf]; rfl)⟩
              | false => exact ⟨fun _ => ⟨⟨hin2 _ z1, Or.inr rfl⟩, hin2 _ z1, nx1 (by rw [ct, cf]; rfl)⟩, fun q => absurd rfl q⟩
          | false =>
            rw [if_neg (by rw [cT]; exact Bool.false_ne_true), if_neg (by rw [cT]; exact Bool.false_ne_true)] at nx0 nx1
            refine ⟨fun _ => vm_tieOf (k := i) (q := 0) W2 (by omega) (by omega) (vm_tieOf (k := i) (q := 0) W2 (by omega) (by omega) (vm_tieOf (k := i) (q := 1) W2 (by omega) (by omega) ?_)), fun q => absurd rfl q⟩
            rw [if_pos rfl, if_neg (by omega), if_pos rfl]
            refine ⟨hin2 _ z1, ?_⟩
            rw [ec _ z1, em _ z1, sb1, ec _ z2, em _ z2]
            cases cf : (swS v T (rdS v T a k) i).1 (v.fr i) with
            | false => exact ⟨fun _ => nx0 (by rw [cf]; rfl), fun q => absurd rfl q⟩
            | true =>
              refine ⟨fun q => absurd q (by decide), fun _ => ⟨hin2 _ z2, ?_⟩⟩
              cases ct : (swS v T (rdS v T a k) i).1 (v.to i) with
              | true => exact ⟨fun q => absurd q (by decide), fun _ => nx0 (by rw [ct, cf]; rfl)⟩
              | false => exact ⟨fun _ => ⟨⟨hin2 _ z2, Or.inr rfl⟩, hin2 _ z2, nx1 (by rw [ct, cf]; rfl)⟩, fun q => absurd rfl q⟩
      exact sweep v.m 0 (by omega) I1 f1 m1 c1
  have start : ∀ n p, p + n = 16 → ∀ I1 : MI, (∀ x, x ≠ 203 → x ≠ 204 → I1 x = I x) → (∀ q, q < p → I1 203 q = nI (decide (q = a)).toNat) → SW m_M_spreads 2 [vr 22 186, vi (nI a), vi (nI p), un, un, un] [] b I1 L (kV K) := by
    intro n
    induction n with
    | zero =>
      intro p hp I1 f1 g1
      obtain rfl : p = 16 := by omega
      exact v_M_spreads_2 ⟨fun _ => round 16 0 (by omega) (fun j hj => absurd hj (Nat.not_lt_zero _)) I1 f1 (fun q hq => g1 q hq) (fun q hq hqa => absurd (of_decide_eq_true hq) hqa), fun z => absurd (by decide) z⟩
    | succ n ih =>
      intro p hp I1 f1 g1
      have hin : vp_in (nI p) 16 := by
        rw [n_in (by omega)]
        omega
      have ep : (nI p).toNatClampNeg = p := n_cl (by omega)
      refine v_M_spreads_2 ⟨fun z => absurd z (by rw [show (16 : Int32) = nI 16 from rfl, n_le (by omega) (by omega)]; omega), fun _ => ?_⟩
      rw [ep, n_eq (by omega) (by omega), show nI p + (1 : Int32) = nI (p + 1) from n_add p 1]
      have nx : ∀ y : Bool, y = decide (p = a) → SW m_M_spreads 2 [vr 22 186, vi (nI a), vi (nI (p + 1)), un, un, un] [] b (sI (sI I1 203 p (nI y.toNat)) 204 p (-1 : Int32)) L (kV K) := fun y hy => ih (p + 1) (by omega) _ (fun x q1 q2 => by rw [sI_c q2, sI_c q1, f1 x q1 q2]) (fun q hq => by
        rw [sI_c (by omega)]
        by_cases c : q = p
        · rw [c, sI_at, hy]
        · rw [sI_j c]
          exact g1 q (by omega))
      exact ⟨fun z => ⟨⟨hin, Or.inl rfl⟩, hin, nx false (decide_eq_false z).symm⟩, fun z => ⟨⟨hin, Or.inr rfl⟩, hin, nx true (decide_eq_true (Decidable.not_not.mp z)).symm⟩⟩
  exact v_M_spreads_0 (start 16 0 (by omega) I (fun _ _ _ => rfl) (fun q hq => absurd hq (Nat.not_lt_zero _)))
theorem cm_flows {v : Vil} {o a c N : Nat} {I : MI} {L : ML} (W : VM v o I) (ha : a < v.n) (hc : c < v.n) (hac : c ≠ a) (h0 : rcB v a c N = false) (h1 : ∀ i, i < N → rcB v a c i = true) {b : Bool} {K : Int32 → Bool → MI → ML → Prop} (hK : ∀ I', wfr I I' → metP (spF v (Tq v a c N) a) I' → K (nI N) b I' L) : CI m_M_flows [vr 22 186, vi (nI a), vi (nI c)] b I L K := by
  have hv := W.1
  have hn := hv.1.2
  have hm := hv.2.1
  have hin : vp_in (nI c) 16 := by
    rw [n_in (by omega)]
    omega
  have ec : (nI c).toNatClampNeg = c := n_cl (by omega)
  -- a way is gone back
  have walk : ∀ (T : Nat → Bool) (dep : Nat → Nat), depP v T a (spF v T a) dep → ∀ j f p U, dep p < f → (spF v T a).1 p = true → (∀ q, (spF v T a).1 q = true → q ≠ a → dep q ≤ dep p → U ((spF v T a).2 q) = T ((spF v T a).2 q)) → ∀ I1 : MI, wfr I I1 → cmC 204 a (spF v T a) I1 → tkP U I1 → (∀ I', wfr I I' → tkP (wlkT v T (spF v T a) a f p U) I' → CV m_M_spreads [vr 22 186, vi (nI a)] b I' L (fun b_1 I_1 L_1 => SW m_M_flows 28 [vr 22 186, vi (nI a), vi (nI c), vi (nI (j + 1)), un, un] [] b_1 I_1 L_1 (kI K))) → SW m_M_flows 40 [vr 22 186, vi (nI a), vi (nI c), vi (nI j), vi (nI p), un] [] b I1 L (kI K) := by
    intro T dep hD j f
    induction f with
    | zero =>
      intro p U h
      omega
    | succ f ih =>
      intro p U hd hp hU I1 f1 c1 t1 kk
      have hpn : p < v.n := (rdS_I (T := T) hv ha 16).2.1 p hp
      have W1 := W.wfr f1
      have ew : wlkT v T (spF v T a) a (f + 1) p U = if p = a then U else wlkT v T (spF v T a) a f (asd v T ((spF v T a).2 p)) (tog U ((spF v T a).2 p)) := rfl
      rw [ew] at kk
      refine v_M_flows_40 ?_
      rw [n_eq (by omega) (by omega), show nI j + (1 : Int32) = nI (j + 1) from n_add j 1]
      refine ⟨fun z => ?_, fun z => ⟨by rw [n_in (by omega)]; omega, ?_⟩⟩
      · rw [if_pos z] at kk
        exact kk I1 f1 t1
      · rw [if_neg z] at kk
        obtain ⟨-, g⟩ := hD p hp
        obtain ⟨g1, g2, g3, g4⟩ := g z
        have e4 := c1 p hp z
        rw [n_cl (by omega), e4]
        have hin40 : vp_in (nI ((spF v T a).2 p)) 40 := by
          rw [n_in (by omega)]
          omega
        refine vm_tieOf (k := (spF v T a).2 p) (q := 0) W1 g1 (by omega) (vm_tieOf (k := (spF v T a).2 p) (q := 1) W1 g1 (by omega) ⟨hin40, ?_⟩)
        rw [if_pos rfl, if_neg (by omega), if_pos rfl, n_cl (by omega), t1 _ (by omega)]
        obtain ⟨z1, z2, z3, -⟩ := hv.2.2.2.2.2.2 _ g1
        have eS : nI (v.fr ((spF v T a).2 p)) + nI (v.to ((spF v T a).2 p)) - nI p = nI (asd v T ((spF v T a).2 p)) := by
          unfold bsd at g2
          unfold asd
          rw [n_add]
          by_cases cT : T ((spF v T a).2 p) = true
          · rw [if_pos cT] at g2
            rw [if_pos cT, n_sub (by omega)]
            congr 1
            omega
          · rw [if_neg cT] at g2
            rw [if_neg cT, n_sub (by omega)]
            congr 1
            omega
        rw [eS]
        have nx : ∀ y : Bool, y = !U ((spF v T a).2 p) → SW m_M_flows 40 [vr 22 186, vi (nI a), vi (nI c), vi (nI j), vi (nI (asd v T ((spF v T a).2 p))), un] [] b (sI I1 202 ((spF v T a).2 p) (nI y.toNat)) L (kI K) := fun y hy => ih (asd v T ((spF v T a).2 p)) (tog U ((spF v T a).2 p)) (by omega) g3 (way_ne hD hp z hU) _ (f1.trans (fun x q1 _ _ => sI_c q1)) (fun q h1 h2 => by rw [sI_c (by omega)]; exact c1 q h1 h2) (fun k hk => by
          show _ = nI (if k = (spF v T a).2 p then !U k else U k).toNat
          by_cases e : k = (spF v T a).2 p
          · rw [if_pos e, e, sI_at, hy]
          · rw [if_neg e, sI_j e]
            exact t1 k hk) kk
        cases cU : U ((spF v T a).2 p) with
        | true => exact ⟨fun _ => ⟨⟨hin40, Or.inl rfl⟩, nx false (by rw [cU]; rfl)⟩, fun q => absurd (by decide) q⟩
        | false => exact ⟨fun q => absurd rfl q, fun _ => ⟨⟨hin40, Or.inr rfl⟩, nx true (by rw [cU]; rfl)⟩⟩
  have loop : ∀ n j, j + n = N → ∀ I1 : MI, wfr I I1 → tkP (Tq v a c j) I1 → metP (spF v (Tq v a c j) a) I1 → cmC 204 a (spF v (Tq v a c j) a) I1 → SW m_M_flows 28 [vr 22 186, vi (nI a), vi (nI c), vi (nI j), un, un] [] b I1 L (kI K) := by
    intro n
    induction n with
    | zero =>
      intro j hj I1 f1 t1 m1 c1
      obtain rfl : j = N := by omega
      refine v_M_flows_28 ⟨hin, ?_⟩
      rw [ec, m1 c (by omega), show (spF v (Tq v a c j) a).1 c = false from h0]
      exact ⟨fun _ => hK I1 f1 m1, fun q => absurd rfl q⟩
    | succ n ih =>
      intro j hj I1 f1 t1 m1 c1
      have hr1 : (spF v (Tq v a c j) a).1 c = true := h1 j (by omega)
      obtain ⟨dep, hD⟩ := spF_dep (T := Tq v a c j) hv ha
      refine v_M_flows_28 ⟨hin, ?_⟩
      rw [ec, m1 c (by omega), hr1]
      refine ⟨fun q => absurd q (by decide), fun _ => ?_⟩
      refine walk (Tq v a c j) dep hD j 16 c (Tq v a c j) (hD c hr1).1 hr1 (fun _ _ _ _ => rfl) I1 f1 c1 t1 (fun I2 f2 t2 => ?_)
      refine cm_spreads (T := Tq v a c (j + 1)) (W.wfr f2) ha t2 (fun I3 f3 m3 c3 => ?_)
      exact ih (j + 1) (by omega) I3 (f2.trans (fun x q1 q2 q3 => f3 x q2 q3)) (fun k hk => by rw [f3 202 (by omega) (by omega)]; exact t2 k hk) m3 c3
  have start : ∀ n k, k + n = 40 → ∀ I1 : MI, (∀ x, x ≠ 202 → I1 x = I x) → (∀ q, q < k → I1 202 q = nI 0) → SW m_M_flows 2 [vr 22 186, vi (nI a), vi (nI c), vi (nI k), un, un] [] b I1 L (kI K) := by
    intro n
    induction n with
    | zero =>
      intro k hk I1 f1 g1
      obtain rfl : k = 40 := by omega
      have fr : wfr I I1 := fun x q1 _ _ => f1 x q1
      refine v_M_flows_2 ⟨fun _ => cm_spreads (T := noT) (W.wfr fr) ha g1 (fun I3 f3 m3 c3 => ?_), fun z => absurd (by decide) z⟩
      exact loop N 0 (by omega) I3 (fr.trans (fun x q1 q2 q3 => f3 x q2 q3)) (fun k hk => by rw [f3 202 (by omega) (by omega)]; exact g1 k hk) m3 c3
    | succ n ih =>
      intro k hk I1 f1 g1
      have hin40 : vp_in (nI k) 40 := by
        rw [n_in (by omega)]
        omega
      have ek : (nI k).toNatClampNeg = k := n_cl (by omega)
      refine v_M_flows_2 ⟨fun z => absurd z (by rw [show (40 : Int32) = nI 40 from rfl, n_le (by omega) (by omega)]; omega), fun _ => ⟨⟨hin40, Or.inl rfl⟩, ?_⟩⟩
      rw [ek, show nI k + (1 : Int32) = nI (k + 1) from n_add k 1]
      refine ih (k + 1) (by omega) _ (fun x hx => by rw [sI_c hx, f1 x hx]) (fun q hq => ?_)
      by_cases e : q = k
      · rw [e, sI_at]
        rfl
      · rw [sI_j e]
        exact g1 q (by omega)
  exact v_M_flows_0 (start 40 0 (by omega) I (fun _ _ => rfl) (fun q hq => absurd hq (Nat.not_lt_zero _)))
theorem op_apart : H_apart := by
  intro a1 a2 a3
  refine Op2.q (fun B => if twB B a1 a2 a3 = true then optI (apO (B.vl a1.toNatClampNeg) a2.toNatClampNeg a3.toNatClampNeg) else nM) (fun B I b L K ok hc k => ?_) (fun B I b L K ok hm k => ?_)
  · refine v_S_apart_0 (c_areTwo ok hc (fun g => ?_) (fun g => ?_))
    · obtain ⟨g1, p, q, hp, hq, hne, rfl, rfl⟩ := tw_in ok g
      obtain ⟨v1, v2, v3, v4⟩ := c_vil ok hc g1
      have hn := v2.1.2
      obtain ⟨N, n1, n2, n3, n4⟩ := apO_some v2 hp (Ne.symm hne)
      rw [if_pos g, n_cl (by omega), n_cl (by omega), n1] at k
      exact ⟨fun _ => ⟨v1, c_mostApart v2 v3 v4 hp hq (Ne.symm hne) n2 n3 n4 (fun I' L' f _ _ => k b I' L' (fun a ha => f a (by omega)))⟩, fun z => absurd (by decide) z⟩
    · have kk := k b I L (fun _ _ => rfl)
      rw [if_neg (by rw [g]; exact Bool.false_ne_true)] at kk
      exact ⟨fun z => absurd rfl z, fun _ => kk⟩
  · refine v_M_apart_0 (cm_areTwo ok hm (fun g I1 o f1 W1 => ?_) (fun g I1 f1 => ?_))
    · obtain ⟨g1, p, q, hp, hq, hne, rfl, rfl⟩ := tw_in ok g
      have hn := W1.1.1.2
      obtain ⟨N, n1, n2, n3, n4⟩ := apO_some W1.1 hp (Ne.symm hne)
      rw [if_pos g, n_cl (by omega), n_cl (by omega), n1] at k
      exact ⟨fun z => absurd z (by decide), fun _ => cm_flows W1 hp hq (Ne.symm hne) n3 n4 (fun I' f _ => k b I' L (fun a ha => by rw [f a (by omega) (by omega) (by omega), f1 a (by omega)]))⟩
    · have kk := k b I1 L (fun a ha => f1 a (by omega))
      rw [if_neg (by rw [g]; exact Bool.false_ne_true)] at kk
      exact ⟨fun _ => kk, fun z => absurd rfl z⟩
/-- a number of bits -/
def lI (f : Nat → Bool) : Int64 := Int64.ofNat (bN 64 f)
theorem lI_bit (f : Nat → Bool) {k : Nat} (hk : k < 64) : bl (lI f) k = f k := by
  have : bl (lI f) k = (decide (k < 64) && (bN 64 f).testBit k) := BitVec.getLsbD_ofNat _ _ _
  rw [this, bN_bit, decide_eq_true hk, Bool.true_and, Bool.true_and]
theorem lI_of {y : Int64} {f : Nat → Bool} (h : ∀ k, k < 64 → bl y k = f k) : y = lI f := l_ext (fun k hk => by rw [h k hk, lI_bit f hk])
theorem cm_cut {v : Vil} {o a c N : Nat} {I : MI} {L : ML} (W : VM v o I) (hA : apO v a c = some N) (hM : metP (spF v (Tq v a c N) a) I) {b : Bool} {K : Int64 → Bool → MI → ML → Prop} (hK : K (lI (cuB v a c)) b I L) : SW m_M_cut 31 [vr 22 186, un, un, un, vl 0, un, vi (nI 0)] [] b I L (kL K) := by
  have hv := W.1
  have hn := hv.1.2
  have hm := hv.2.1
  have loop : ∀ n i, i + n = v.m → ∀ y : Int64, (∀ k, k < 64 → bl y k = (decide (k < i) && cuB v a c k)) → SW m_M_cut 31 [vr 22 186, un, un, un, vl y, un, vi (nI i)] [] b I L (kL K) := by
    intro n
    induction n with
    | zero =>
      intro i hi y hy
      obtain rfl : i = v.m := by omega
      refine v_M_cut_31 (vm_ties W ⟨fun _ => ?_, fun z => absurd (by rw [n_le (by omega) (by omega)]; exact Nat.le_refl _) z⟩)
      have e : y = lI (cuB v a c) := lI_of (fun k hk => by
        rw [hy k hk, cuB_eq hA]
        cases decide (k < v.m) <;> rfl)
      rw [e]
      exact hK
    | succ n ih =>
      intro i hi y hy
      obtain ⟨z1, z2, z3, -⟩ := hv.2.2.2.2.2.2 i (by omega)
      have hin2 : ∀ q, q < v.n → vp_in (nI q) 16 := fun q hq => by
        rw [n_in (by omega)]
        omega
      have ec : ∀ q, q < v.n → (nI q).toNatClampNeg = q := fun q hq => n_cl (by omega)
      have em := fun q (hq : q < v.n) => hM q (by omega)
      have eb : cuB v a c i = ((spF v (Tq v a c N) a).1 (v.fr i) && !(spF v (Tq v a c N) a).1 (v.to i)) := by rw [cuB_eq hA, decide_eq_true (by omega), Bool.true_and]
      have nx0 : cuB v a c i = false → SW m_M_cut 31 [vr 22 186, un, un, un, vl (y ||| (0 : Int64)), un, vi (nI (i + 1))] [] b I L (kL K) := fun e => ih (i + 1) (by omega) _ (fun k hk => by
        rw [l_or, l_0, Bool.or_false, hy k hk]
        by_cases c : k = i
        · subst c
          rw [e, Bool.and_false, Bool.and_false]
        · congr 1
          exact decide_eq_decide.mpr ⟨fun _ => by omega, fun _ => by omega⟩)
      have nx1 : cuB v a c i = true → SW m_M_cut 31 [vr 22 186, un, un, un, vl (y ||| ((1 : Int64) <<< ((nI i).toInt64 &&& 63))), un, vi (nI (i + 1))] [] b I L (kL K) := fun e => ih (i + 1) (by omega) _ (fun k hk => by
        rw [l_or, hy k hk, l_one (by omega) hk]
        by_cases c : k = i
        · subst c
          rw [e, decide_eq_true rfl, Bool.or_true, decide_eq_true (by omega : k < k + 1)]
          rfl
        · rw [decide_eq_false c, Bool.or_false]
          congr 1
          exact decide_eq_decide.mpr ⟨fun _ => by omega, fun _ => by omega⟩)
      rw [eb] at nx0 nx1
      refine v_M_cut_31 (vm_ties W ⟨fun z => absurd z (by rw [n_le (by omega) (by omega)]; omega), fun _ => vm_tieOf (k := i) (q := 0) W (by omega) (by omega) ⟨?_, ?_⟩⟩)
      · rw [if_pos rfl]
        exact hin2 _ z1
      · rw [if_pos rfl, ec _ z1, em _ z1, show nI i + (1 : Int32) = nI (i + 1) from n_add i 1]
        cases cf : (spF v (Tq v a c N) a).1 (v.fr i) with
        | false => exact ⟨fun _ => nx0 (by rw [cf]; rfl), fun q => absurd rfl q⟩
        | true =>
          refine ⟨fun q => absurd q (by decide), fun _ => vm_tieOf (k := i) (q := 1) W (by omega) (by omega) ⟨?_, ?_⟩⟩
          · rw [if_neg (by omega), if_pos rfl]
            exact hin2 _ z2
          · rw [if_neg (by omega), if_pos rfl, ec _ z2, em _ z2]
            cases ct : (spF v (Tq v a c N) a).1 (v.to i) with
            | true => exact ⟨fun _ => nx0 (by rw [cf, ct]; rfl), fun q => absurd (by decide) q⟩
            | false => exact ⟨fun q => absurd rfl q, fun _ => nx1 (by rw [cf, ct]; rfl)⟩
  exact loop v.m 0 (by omega) 0 (fun k hk => by rw [l_0, decide_eq_false (Nat.not_lt_zero k), Bool.false_and])
theorem op_cut : H_cut := by
  intro a1 a2 a3
  refine Op2L.q (fun B => if twB B a1 a2 a3 = true then lI (cuB (B.vl a1.toNatClampNeg) a2.toNatClampNeg a3.toNatClampNeg) else -1) (fun B I b L K ok hc k => ?_) (fun B I b L K ok hm k => ?_)
  · refine v_S_cut_0 (c_areTwo ok hc (fun g => ?_) (fun g => ?_))
    · obtain ⟨g1, p, q, hp, hq, hne, rfl, rfl⟩ := tw_in ok g
      obtain ⟨v1, v2, v3, v4⟩ := c_vil ok hc g1
      have hn := v2.1.2
      obtain ⟨N, n1, n2, n3, n4⟩ := apO_some v2 hp (Ne.symm hne)
      rw [if_pos g, n_cl (by omega), n_cl (by omega)] at k
      refine ⟨fun _ => ⟨v1, c_cut v2 v3 v4 hp hq (Ne.symm hne) n1 n2 n3 n4 (fun y I' L' hy f => ?_)⟩, fun z => absurd (by decide) z⟩
      rw [lI_of hy]
      exact k b I' L' (fun a ha => f a (by omega))
    · have kk := k b I L (fun _ _ => rfl)
      rw [if_neg (by rw [g]; exact Bool.false_ne_true)] at kk
      exact ⟨fun z => absurd rfl z, fun _ => kk⟩
  · refine v_M_cut_0 (cm_areTwo ok hm (fun g I1 o f1 W1 => ?_) (fun g I1 f1 => ?_))
    · obtain ⟨g1, p, q, hp, hq, hne, rfl, rfl⟩ := tw_in ok g
      have hn := W1.1.1.2
      have hm2 := W1.1.2.1
      obtain ⟨N, n1, n2, n3, n4⟩ := apO_some W1.1 hp (Ne.symm hne)
      rw [if_pos g, n_cl (by omega), n_cl (by omega)] at k
      refine ⟨fun _ => cm_flows W1 hp hq (Ne.symm hne) n3 n4 (fun I2 f2 m2 => ?_), fun z => absurd (by decide) z⟩
      have kk := k b I2 L (fun a ha => by rw [f2 a (by omega) (by omega) (by omega), f1 a (by omega)])
      rw [show ((0 : Int32) = nI 0) from rfl, n_eq (by omega) (by omega)]
      refine ⟨fun _ => cm_cut (W1.wfr f2) n1 m2 kk, fun z => ?_⟩
      rw [show N = 0 from Decidable.not_not.mp z] at n1
      have e : lI (cuB (B.vl a1.toNatClampNeg) p q) = 0 := l_ext (fun k hk => by rw [lI_bit _ hk, l_0]; exact cuB_0 W1.1 hp n1 k)
      rw [e] at kk
      exact kk
    · have kk := k b I1 L (fun a ha => f1 a (by omega))
      rw [if_neg (by rw [g]; exact Bool.false_ne_true)] at kk
      exact ⟨fun z => absurd rfl z, fun _ => kk⟩
