/-! WHAT IS SAID -/
theorem c_limit {v : Vil} {c s p : Nat} {b : Bool} {I : MI} {L : ML} {K : Int32 → Bool → MI → ML → Prop} (h : vilC c v I) (hs : s < 2) (hp : p < 16) (hk : v.kd p ≤ 5) (hK : K (nI (v.lim s p)) b I L) : CI m_Village_limit [vr 19 c, vi (nI p), vi (nI s)] b I L K := by
  have e1 := (h.2.1 p hp).1
  obtain ⟨-, -, -, e2, e3⟩ := h.1
  unfold Vil.lim at hK
  refine v_Village_limit_0 ?_
  by_cases c5 : v.kd p = 5
  · rw [if_pos c5] at hK
    rw [c5] at e1
    simp (disch := first | omega | assumption) only [n_lit, n_gLt, n_gLe, n_gEq, n_gEq2, n_gLe2, n_gLt2, n_m1, n_add, n_mul, n_lt, n_le, n_eq, n_cl, n_in, n_rem, n_mlt, n_mle, n_ltm, n_lem, n_eqm, n_meq, n_bit, n_shl, n_b0, n_b1, n_sub, n_inT, nT, nF, lT, lF, eT, eF, not_false_eq_true, not_true_eq_false, sI_at, sI_c, sI_j, aI_at, aI_c, sL_at, sL_c, sL_j, true_and, and_true, not_true_eq_false, not_false_eq_true, forall_const, true_implies, false_implies, implies_true, if_true, if_false, ite_true, ite_false, Bool.not_eq_true, Bool.not_eq_false, Bool.true_eq_false, Bool.false_eq_true, false_and, and_false, or_true, true_or, false_or, or_false, e1]
    exact hK
  · rw [if_neg c5] at hK
    rcases (by omega : s = 0 ∨ s = 1) with rfl | rfl
    · rw [if_pos rfl] at hK
      simp (disch := first | omega | assumption) only [n_lit, n_gLt, n_gLe, n_gEq, n_gEq2, n_gLe2, n_gLt2, n_m1, n_add, n_mul, n_lt, n_le, n_eq, n_cl, n_in, n_rem, n_mlt, n_mle, n_ltm, n_lem, n_eqm, n_meq, n_bit, n_shl, n_b0, n_b1, n_sub, n_inT, nT, nF, lT, lF, eT, eF, not_false_eq_true, not_true_eq_false, sI_at, sI_c, sI_j, aI_at, aI_c, sL_at, sL_c, sL_j, true_and, and_true, not_true_eq_false, not_false_eq_true, forall_const, true_implies, false_implies, implies_true, if_true, if_false, ite_true, ite_false, Bool.not_eq_true, Bool.not_eq_false, Bool.true_eq_false, Bool.false_eq_true, false_and, and_false, or_true, true_or, false_or, or_false, e1, e2]
      exact hK
    · rw [if_neg (by omega)] at hK
      simp (disch := first | omega | assumption) only [n_lit, n_gLt, n_gLe, n_gEq, n_gEq2, n_gLe2, n_gLt2, n_m1, n_add, n_mul, n_lt, n_le, n_eq, n_cl, n_in, n_rem, n_mlt, n_mle, n_ltm, n_lem, n_eqm, n_meq, n_bit, n_shl, n_b0, n_b1, n_sub, n_inT, nT, nF, lT, lF, eT, eF, not_false_eq_true, not_true_eq_false, sI_at, sI_c, sI_j, aI_at, aI_c, sL_at, sL_c, sL_j, true_and, and_true, not_true_eq_false, not_false_eq_true, forall_const, true_implies, false_implies, implies_true, if_true, if_false, ite_true, ite_false, Bool.not_eq_true, Bool.not_eq_false, Bool.true_eq_false, Bool.false_eq_true, false_and, and_false, or_true, true_or, false_or, or_false, e1, e3]
      exact hK
theorem c_sideHas {r d p : Nat} {b : Bool} {I : MI} {L : ML} {K : Int32 → Bool → MI → ML → Prop} (hd : d ≤ 200) (hp : p < 32) (hK : K (nI (bt (I (r + 1) d) p).toNat) b I L) : CI m_Side_has [vr 16 r, vi (nI d), vi (nI p)] b I L K := by
  refine v_Side_has_0 ?_
  simp (disch := first | omega | assumption) only [n_lit, n_gLt, n_gLe, n_gEq, n_gEq2, n_gLe2, n_gLt2, n_m1, n_add, n_mul, n_lt, n_le, n_eq, n_cl, n_in, n_rem, n_mlt, n_mle, n_ltm, n_lem, n_eqm, n_meq, n_bit, n_shl, n_b0, n_b1, n_sub, n_inT, nT, nF, lT, lF, eT, eF, not_false_eq_true, not_true_eq_false, sI_at, sI_c, sI_j, aI_at, aI_c, sL_at, sL_c, sL_j, true_and, and_true, not_true_eq_false, not_false_eq_true, forall_const, true_implies, false_implies, implies_true, if_true, if_false, ite_true, ite_false, Bool.not_eq_true, Bool.not_eq_false, Bool.true_eq_false, Bool.false_eq_true, false_and, and_false, or_true, true_or, false_or, or_false]
  exact hK
theorem lim_le {v : Vil} (ok : v.ok 41) (s p : Nat) : v.lim s p ≤ 30 := by
  have h1 := ok.2.2.2.1
  have h2 := ok.2.2.2.2.1
  unfold Vil.lim
  repeat' split
  all_goals omega
theorem l_put {c : Bool} {i k : Nat} (hi : i < 64) (hk : k < 64) : bl ((Int32.toInt64 (nI c.toNat)) <<< ((nI i).toInt64 &&& 63)) k = (c && decide (k = i)) := by
  rw [l_shl i hi _ hk]
  cases c with
  | false =>
    rw [show Int32.toInt64 (nI (false).toNat) = 0 from rfl, l_0, Bool.and_false, Bool.false_and]
  | true =>
    rw [show Int32.toInt64 (nI (true).toNat) = 1 from rfl, Bool.true_and]
    by_cases q : i ≤ k
    · rw [decide_eq_true q, Bool.true_and, l_1 _ (by omega)]
      exact decide_eq_decide.mpr ⟨fun _ => by omega, fun _ => by omega⟩
    · rw [decide_eq_false q, Bool.false_and, decide_eq_false (by omega)]
/-- what saying leaves, on one side -/
def sayQ (w : Wd) (s d r : Nat) (I I' : MI) (L L' : ML) : Prop := (∀ a, a ≠ r + 2 → a ≠ r + 5 → I' a = I a) ∧ (∀ j, j ≠ d → I' (r + 2) j = I (r + 2) j) ∧ (∀ j, j < d * 16 ∨ d * 16 + 16 ≤ j → I' (r + 5) j = I (r + 5) j) ∧ (∀ a, a ≠ r + 3 → L' a = L a) ∧ (∀ j, j ≠ d → L' (r + 3) j = L (r + 3) j) ∧ (∀ p, p < 32 → bt (I' (r + 2) d) p = (decide (p < w.v.n) && (stt w d).sa s p)) ∧ (∀ p, p < 16 → I' (r + 5) (d * 16 + p) = nI (if p < w.v.n then (stt w d).cn s p else 0)) ∧ ∀ k, k < 64 → bl (L' (r + 3) d) k = (decide (k < w.v.m) && went w s d k)
theorem stt_sa (w : Wd) (d s p : Nat) : (stt w d).sa s p = saS w d (stp w d) s p := by rw [stt_eq]; rfl
theorem stt_ha (w : Wd) (d s p : Nat) : (stt w d).ha s p = haS w d (stp w d) s p := by rw [stt_eq]; rfl
theorem stt_cn (w : Wd) (d s p : Nat) : (stt w d).cn s p = (stp w d).cn s p + (if saS w d (stp w d) s p = true ∧ 0 < w.v.lim s p then 1 else 0) := by rw [stt_eq]; rfl
theorem stt_su (w : Wd) (d p : Nat) : (stt w d).su p = (tkS w d (stp w d) p).2.2 := by rw [stt_eq]; rfl
theorem stt_ca (w : Wd) (d s p : Nat) : (stt w d).ca s p = camS w d (stp w d) s p := by rw [stt_eq]; rfl
theorem say_2 {w : Wd} {s d r : Nat} (hr : isR s r) (hd : d ≤ 200) {b : Bool} {I I0 : MI} {L L0 : ML} {K : Bool → MI → ML → Prop} (h : WL w I L) {z : Int32} (hz : ∀ p, p < 32 → bt z p = (decide (p < w.v.n) && saS w d (stp w d) s p)) (hI1 : ∀ a, a ≠ r + 2 → a ≠ r + 5 → I a = I0 a) (hI2 : ∀ j, j ≠ d → I (r + 2) j = I0 (r + 2) j) (hI3 : ∀ j, j < d * 16 ∨ d * 16 + 16 ≤ j → I (r + 5) j = I0 (r + 5) j) (hL1 : ∀ a, a ≠ r + 3 → L a = L0 a) (hL2 : ∀ j, j ≠ d → L (r + 3) j = L0 (r + 3) j) (hcn : ∀ p, p < 16 → I (r + 5) (d * 16 + p) = nI (if p < w.v.n then (stt w d).cn s p else 0)) (hK : ∀ I' L', sayQ w s d r I0 I' L0 L' → K b I' L') : ∀ n i, i + n = w.v.m → ∀ y : Int64, (∀ k, k < 64 → bl y k = (decide (k < i) && saS w d (stp w d) s (w.v.fr k))) → SW m_Run_say 185 [vr 14 153, vi (nI d), un, vr 16 r, vi z, vl y, un, vi (nI i), un, un] [] b I L (kV K) := by
  intro n
  have ok := h.vil.2
  have hm := ok.2.1
  have hn := ok.1.2
  have e1 : I 154 3 = nI w.v.m := h.vil.1.1.2.1
  have hrr : r = 166 ∨ r = 172 := by rcases hr with ⟨_, h⟩ | ⟨_, h⟩ <;> omega
  induction n with
  | zero =>
    intro i hi y hy
    obtain rfl : i = w.v.m := by omega
    refine v_Run_say_185 ?_
    simp (disch := first | omega | assumption) only [n_lit, n_gLt, n_gLe, n_gEq, n_gEq2, n_gLe2, n_gLt2, n_m1, n_add, n_mul, n_lt, n_le, n_eq, n_cl, n_in, n_rem, n_mlt, n_mle, n_ltm, n_lem, n_eqm, n_meq, n_bit, n_shl, n_b0, n_b1, n_sub, n_inT, nT, nF, lT, lF, eT, eF, not_false_eq_true, not_true_eq_false, sI_at, sI_c, sI_j, aI_at, aI_c, sL_at, sL_c, sL_j, true_and, and_true, not_true_eq_false, not_false_eq_true, forall_const, true_implies, false_implies, implies_true, if_true, if_false, ite_true, ite_false, Bool.not_eq_true, Bool.not_eq_false, Bool.true_eq_false, Bool.false_eq_true, false_and, and_false, or_true, true_or, false_or, or_false, e1]
    refine cw_openOn (h.fr (fun a c1 c2 => sI_c (by omega)) (fun a _ => rfl)) hd (fun q hq => ?_)
    refine hK _ _ ⟨fun a c1 c2 => ?_, fun j hj => ?_, fun j hj => ?_, fun a ha => ?_, fun j hj => ?_, fun p hp => ?_, fun p hp => ?_, fun k hk => ?_⟩
    · rw [sI_c c1]; exact hI1 a c1 c2
    · rw [sI_j hj]; exact hI2 j hj
    · rw [sI_c (by omega)]; exact hI3 j hj
    · rw [sL_c ha]; exact hL1 a ha
    · rw [sL_j hj]; exact hL2 j hj
    · rw [sI_at, hz p hp, stt_sa]
    · rw [sI_c (by omega)]; exact hcn p hp
    · rw [sL_at, l_and, hy k hk, hq k hk, Bool.and_assoc]
      rfl
  | succ n ih =>
    intro i hi y hy
    have hf := (ok.2.2.2.2.2.2 i (by omega)).1
    have e157 : I 157 i = nI (w.v.fr i) := (h.vil.1.2.2 i (by omega)).1
    have hzi := hz (w.v.fr i) (by omega)
    rw [decide_eq_true hf, Bool.true_and] at hzi
    refine v_Run_say_185 ?_
    simp (disch := first | omega | assumption) only [n_lit, n_gLt, n_gLe, n_gEq, n_gEq2, n_gLe2, n_gLt2, n_m1, n_add, n_mul, n_lt, n_le, n_eq, n_cl, n_in, n_rem, n_mlt, n_mle, n_ltm, n_lem, n_eqm, n_meq, n_bit, n_shl, n_b0, n_b1, n_sub, n_inT, nT, nF, lT, lF, eT, eF, not_false_eq_true, not_true_eq_false, sI_at, sI_c, sI_j, aI_at, aI_c, sL_at, sL_c, sL_j, true_and, and_true, not_true_eq_false, not_false_eq_true, forall_const, true_implies, false_implies, implies_true, if_true, if_false, ite_true, ite_false, Bool.not_eq_true, Bool.not_eq_false, Bool.true_eq_false, Bool.false_eq_true, false_and, and_false, or_true, true_or, false_or, or_false, e1, e157, hzi]
    refine ih (i + 1) (by omega) _ (fun k hk => ?_)
    rw [l_or, hy k hk, l_put (by omega) hk]
    by_cases q : k = i
    · subst q
      rw [decide_eq_false (by omega : ¬ k < k), Bool.false_and, Bool.false_or, decide_eq_true rfl, Bool.and_true, decide_eq_true (by omega : k < k + 1), Bool.true_and]
    · rw [decide_eq_false q, Bool.and_false, Bool.or_false]
      congr 1
      exact decide_eq_decide.mpr ⟨fun _ => by omega, fun _ => by omega⟩
theorem c_say {w : Wd} {s d r : Nat} (hr : isR s r) (hd : d ≤ 200) {b : Bool} {I : MI} {L : ML} {K : Bool → MI → ML → Prop} (h : WL w I L) (hha : ∀ p, p < 32 → bt (I (r + 1) d) p = (decide (p < w.v.n) && haS w d (stp w d) s p)) (hcn : ∀ p, p < 16 → I (r + 5) (d * 16 + p) = nI (if p < w.v.n then (stp w d).cn s p else 0)) (hK : ∀ I' L', sayQ w s d r I I' L L' → K b I' L') : CV m_Run_say [vr 14 153, vi (nI d), vi (nI s)] b I L K := by
  have ok := h.vil.2
  have hm := ok.2.1
  have hn := ok.1.2
  have hs : s < 2 := by rcases hr with ⟨h, _⟩ | ⟨h, _⟩ <;> omega
  have hrr : r = 166 ∨ r = 172 := by rcases hr with ⟨_, h⟩ | ⟨_, h⟩ <;> omega
  have e1 : I 154 0 = nI w.v.n := h.vil.1.1.1
  -- the persons, one by one
  have loop : ∀ n i, i + n = w.v.n → ∀ (I1 : MI) (L1 : ML) (z : Int32), (∀ a, a ≠ r + 2 → a ≠ r + 5 → I1 a = I a) → (∀ j, j ≠ d → I1 (r + 2) j = I (r + 2) j) → (∀ j, j < d * 16 ∨ d * 16 + 16 ≤ j → I1 (r + 5) j = I (r + 5) j) → (∀ a, a ≠ r + 3 → L1 a = L a) → (∀ j, j ≠ d → L1 (r + 3) j = L (r + 3) j) → (∀ p, p < 32 → bt z p = (decide (p < i) && saS w d (stp w d) s p)) → (∀ p, p < 16 → I1 (r + 5) (d * 16 + p) = nI (if p < w.v.n then (if p < i then (stt w d).cn s p else (stp w d).cn s p) else 0)) → SW m_Run_say 39 [vr 14 153, vi (nI d), vi (nI s), vr 16 r, vi z, vi (nI i), un, un, un, un] [] b I1 L1 (kV K) := by
    intro n
    induction n with
    | zero =>
      intro i hi I1 L1 z g1 g2 g3 g4 g5 g6 g7
      obtain rfl : i = w.v.n := by omega
      have e1' : I1 154 0 = nI w.v.n := by rw [g1 154 (by omega) (by omega)]; exact e1
      refine v_Run_say_39 ?_
      simp (disch := first | omega | assumption) only [n_lit, n_gLt, n_gLe, n_gEq, n_gEq2, n_gLe2, n_gLt2, n_m1, n_add, n_mul, n_lt, n_le, n_eq, n_cl, n_in, n_rem, n_mlt, n_mle, n_ltm, n_lem, n_eqm, n_meq, n_bit, n_shl, n_b0, n_b1, n_sub, n_inT, nT, nF, lT, lF, eT, eF, not_false_eq_true, not_true_eq_false, sI_at, sI_c, sI_j, aI_at, aI_c, sL_at, sL_c, sL_j, true_and, and_true, not_true_eq_false, not_false_eq_true, forall_const, true_implies, false_implies, implies_true, if_true, if_false, ite_true, ite_false, Bool.not_eq_true, Bool.not_eq_false, Bool.true_eq_false, Bool.false_eq_true, false_and, and_false, or_true, true_or, false_or, or_false, e1']
      refine say_2 hr hd (I0 := I) (L0 := L) (h.fr (fun a c1 c2 => g1 a (by omega) (by omega)) (fun a ha => g4 a (by omega))) g6 g1 g2 g3 g4 g5 (fun p hp => ?_) hK w.v.m 0 (by omega) 0 (fun k hk => ?_)
      · rw [g7 p hp]
        by_cases q : p < w.v.n
        · rw [if_pos q, if_pos q, if_pos q]
        · rw [if_neg q, if_neg q]
      · rw [l_0]; rfl
    | succ n ih =>
      intro i hi I1 L1 z g1 g2 g3 g4 g5 g6 g7
      have h1 : WL w I1 L1 := h.fr (fun a c1 c2 => g1 a (by omega) (by omega)) (fun a ha => g4 a (by omega))
      have e1' : I1 154 0 = nI w.v.n := h1.vil.1.1.1
      have hk5 := (ok.2.2.2.2.2.1 i (by omega)).1
      have hlim := lim_le ok s i
      have hcc := cnp_le w s i d
      have ecn : I1 (r + 5) (d * 16 + i) = nI ((stp w d).cn s i) := by rw [g7 i (by omega), if_pos (by omega), if_neg (by omega)]
      have eha : bt (I1 (r + 1) d) i = haS w d (stp w d) s i := by
        rw [g1 (r + 1) (by omega) (by omega), hha i (by omega), decide_eq_true (by omega : i < w.v.n), Bool.true_and]
      have next : ∀ (y : Int32) (c : Nat), (∀ p, p < 32 → bt y p = (decide (p = i) && saS w d (stp w d) s i)) → c = (if saS w d (stp w d) s i = true ∧ 0 < w.v.lim s i then 1 else 0) → SW m_Run_say 39 [vr 14 153, vi (nI d), vi (nI s), vr 16 r, vi (z ||| y), vi (nI (i + 1)), un, un, un, un] [] b (sI I1 (r + 5) (d * 16 + i) (nI ((stp w d).cn s i + c))) L1 (kV K) := by
        intro y c hy hc
        refine ih (i + 1) (by omega) _ L1 _ (fun a c1 c2 => by rw [sI_c c2]; exact g1 a c1 c2) (fun j hj => by rw [sI_c (by omega)]; exact g2 j hj) (fun j hj => by rw [sI_j (by omega)]; exact g3 j hj) g4 g5 (fun p hp => ?_) (fun p hp => ?_)
        · rw [b_or, g6 p hp, hy p hp]
          by_cases q : p = i
          · subst q
            rw [decide_eq_false (by omega : ¬ p < p), Bool.false_and, Bool.false_or, decide_eq_true rfl, Bool.true_and, decide_eq_true (by omega : p < p + 1), Bool.true_and]
          · rw [decide_eq_false q, Bool.false_and, Bool.or_false]
            congr 1
            exact decide_eq_decide.mpr ⟨fun _ => by omega, fun _ => by omega⟩
        · by_cases q : p = i
          · subst q
            rw [sI_at, if_pos (by omega), if_pos (by omega), stt_cn, hc]
          · rw [sI_j (by omega), g7 p hp]
            by_cases q2 : p < w.v.n
            · rw [if_pos q2, if_pos q2]
              by_cases q3 : p < i
              · rw [if_pos q3, if_pos (by omega)]
              · rw [if_neg q3, if_neg (by omega)]
            · rw [if_neg q2, if_neg q2]
      have next0 : saS w d (stp w d) s i = false → SW m_Run_say 39 [vr 14 153, vi (nI d), vi (nI s), vr 16 r, vi (z ||| nI 0), vi (nI (i + 1)), un, un, un, un] [] b (sI I1 (r + 5) (d * 16 + i) (nI ((stp w d).cn s i + 0))) L1 (kV K) := fun q => next _ 0 (fun p hp => by rw [b_0, q, Bool.and_false]) (by rw [q, if_neg (by simp)])
      have next1 : ∀ c, saS w d (stp w d) s i = true → c = (if 0 < w.v.lim s i then 1 else 0) → SW m_Run_say 39 [vr 14 153, vi (nI d), vi (nI s), vr 16 r, vi (z ||| nI (2 ^ i)), vi (nI (i + 1)), un, un, un, un] [] b (sI I1 (r + 5) (d * 16 + i) (nI ((stp w d).cn s i + c))) L1 (kV K) := fun c q hc => next _ c (fun p hp => by rw [b_2p hp, q, Bool.and_true]; exact decide_eq_decide.mpr ⟨fun q => q.symm, fun q => q.symm⟩) (by rw [q, hc]; simp)
      have hsa : saS w d (stp w d) s i = (haS w d (stp w d) s i && (!w.si i && (decide (w.v.lim s i = 0) || decide ((stp w d).cn s i < w.v.lim s i)))) := rfl
      refine v_Run_say_39 ?_
      simp (disch := first | omega | assumption) only [n_lit, n_gLt, n_gLe, n_gEq, n_gEq2, n_gLe2, n_gLt2, n_m1, n_add, n_mul, n_lt, n_le, n_eq, n_cl, n_in, n_rem, n_mlt, n_mle, n_ltm, n_lem, n_eqm, n_meq, n_bit, n_shl, n_b0, n_b1, n_sub, n_inT, nT, nF, lT, lF, eT, eF, not_false_eq_true, not_true_eq_false, sI_at, sI_c, sI_j, aI_at, aI_c, sL_at, sL_c, sL_j, true_and, and_true, not_true_eq_false, not_false_eq_true, forall_const, true_implies, false_implies, implies_true, if_true, if_false, ite_true, ite_false, Bool.not_eq_true, Bool.not_eq_false, Bool.true_eq_false, Bool.false_eq_true, false_and, and_false, or_true, true_or, false_or, or_false, e1']
      refine c_limit h1.vil.1 hs (by omega) hk5 ?_
      by_cases l0 : w.v.lim s i = 0
      · rw [l0]
        simp (disch := first | omega | assumption) only [n_lit, n_gLt, n_gLe, n_gEq, n_gEq2, n_gLe2, n_gLt2, n_m1, n_add, n_mul, n_lt, n_le, n_eq, n_cl, n_in, n_rem, n_mlt, n_mle, n_ltm, n_lem, n_eqm, n_meq, n_bit, n_shl, n_b0, n_b1, n_sub, n_inT, nT, nF, lT, lF, eT, eF, not_false_eq_true, not_true_eq_false, sI_at, sI_c, sI_j, aI_at, aI_c, sL_at, sL_c, sL_j, true_and, and_true, not_true_eq_false, not_false_eq_true, forall_const, true_implies, false_implies, implies_true, if_true, if_false, ite_true, ite_false, Bool.not_eq_true, Bool.not_eq_false, Bool.true_eq_false, Bool.false_eq_true, false_and, and_false, or_true, true_or, false_or, or_false]
        refine c_sideHas hd (by omega) ?_
        rw [eha]
        cases c1 : haS w d (stp w d) s i with
        | false =>
          have q := next0 (by rw [hsa, c1]; rfl)
          simp (disch := first | omega | assumption) only [n_lit, n_gLt, n_gLe, n_gEq, n_gEq2, n_gLe2, n_gLt2, n_m1, n_add, n_mul, n_lt, n_le, n_eq, n_cl, n_in, n_rem, n_mlt, n_mle, n_ltm, n_lem, n_eqm, n_meq, n_bit, n_shl, n_b0, n_b1, n_sub, n_inT, nT, nF, lT, lF, eT, eF, not_false_eq_true, not_true_eq_false, sI_at, sI_c, sI_j, aI_at, aI_c, sL_at, sL_c, sL_j, true_and, and_true, not_true_eq_false, not_false_eq_true, forall_const, true_implies, false_implies, implies_true, if_true, if_false, ite_true, ite_false, Bool.not_eq_true, Bool.not_eq_false, Bool.true_eq_false, Bool.false_eq_true, false_and, and_false, or_true, true_or, false_or, or_false, Bool.toNat_false, ecn, Nat.add_zero]
          rw [Nat.add_zero] at q
          exact q
        | true =>
          simp (disch := first | omega | assumption) only [n_lit, n_gLt, n_gLe, n_gEq, n_gEq2, n_gLe2, n_gLt2, n_m1, n_add, n_mul, n_lt, n_le, n_eq, n_cl, n_in, n_rem, n_mlt, n_mle, n_ltm, n_lem, n_eqm, n_meq, n_bit, n_shl, n_b0, n_b1, n_sub, n_inT, nT, nF, lT, lF, eT, eF, not_false_eq_true, not_true_eq_false, sI_at, sI_c, sI_j, aI_at, aI_c, sL_at, sL_c, sL_j, true_and, and_true, not_true_eq_false, not_false_eq_true, forall_const, true_implies, false_implies, implies_true, if_true, if_false, ite_true, ite_false, Bool.not_eq_true, Bool.not_eq_false, Bool.true_eq_false, Bool.false_eq_true, false_and, and_false, or_true, true_or, false_or, or_false, Bool.toNat_true]
          refine cw_silent h1 (by omega) ?_
          cases c2 : w.si i with
          | true =>
            have q := next0 (by rw [hsa, c1, c2]; rfl)
            simp (disch := first | omega | assumption) only [n_lit, n_gLt, n_gLe, n_gEq, n_gEq2, n_gLe2, n_gLt2, n_m1, n_add, n_mul, n_lt, n_le, n_eq, n_cl, n_in, n_rem, n_mlt, n_mle, n_ltm, n_lem, n_eqm, n_meq, n_bit, n_shl, n_b0, n_b1, n_sub, n_inT, nT, nF, lT, lF, eT, eF, not_false_eq_true, not_true_eq_false, sI_at, sI_c, sI_j, aI_at, aI_c, sL_at, sL_c, sL_j, true_and, and_true, not_true_eq_false, not_false_eq_true, forall_const, true_implies, false_implies, implies_true, if_true, if_false, ite_true, ite_false, Bool.not_eq_true, Bool.not_eq_false, Bool.true_eq_false, Bool.false_eq_true, false_and, and_false, or_true, true_or, false_or, or_false, Bool.toNat_true, ecn, Nat.add_zero]
            rw [Nat.add_zero] at q
            exact q
          | false =>
            have q := next1 0 (by rw [hsa, c1, c2, l0]; rfl) (by rw [l0]; rfl)
            simp (disch := first | omega | assumption) only [n_lit, n_gLt, n_gLe, n_gEq, n_gEq2, n_gLe2, n_gLt2, n_m1, n_add, n_mul, n_lt, n_le, n_eq, n_cl, n_in, n_rem, n_mlt, n_mle, n_ltm, n_lem, n_eqm, n_meq, n_bit, n_shl, n_b0, n_b1, n_sub, n_inT, nT, nF, lT, lF, eT, eF, not_false_eq_true, not_true_eq_false, sI_at, sI_c, sI_j, aI_at, aI_c, sL_at, sL_c, sL_j, true_and, and_true, not_true_eq_false, not_false_eq_true, forall_const, true_implies, false_implies, implies_true, if_true, if_false, ite_true, ite_false, Bool.not_eq_true, Bool.not_eq_false, Bool.true_eq_false, Bool.false_eq_true, false_and, and_false, or_true, true_or, false_or, or_false, Bool.toNat_false, ecn, Nat.add_zero]
            rw [Nat.add_zero] at q
            exact q
      · by_cases l1 : (stp w d).cn s i < w.v.lim s i
        · simp (disch := first | omega | assumption) only [n_lit, n_gLt, n_gLe, n_gEq, n_gEq2, n_gLe2, n_gLt2, n_m1, n_add, n_mul, n_lt, n_le, n_eq, n_cl, n_in, n_rem, n_mlt, n_mle, n_ltm, n_lem, n_eqm, n_meq, n_bit, n_shl, n_b0, n_b1, n_sub, n_inT, nT, nF, lT, lF, eT, eF, not_false_eq_true, not_true_eq_false, sI_at, sI_c, sI_j, aI_at, aI_c, sL_at, sL_c, sL_j, true_and, and_true, not_true_eq_false, not_false_eq_true, forall_const, true_implies, false_implies, implies_true, if_true, if_false, ite_true, ite_false, Bool.not_eq_true, Bool.not_eq_false, Bool.true_eq_false, Bool.false_eq_true, false_and, and_false, or_true, true_or, false_or, or_false, ecn]
          refine c_sideHas hd (by omega) ?_
          rw [eha]
          cases c1 : haS w d (stp w d) s i with
          | false =>
            have q := next0 (by rw [hsa, c1]; rfl)
            simp (disch := first | omega | assumption) only [n_lit, n_gLt, n_gLe, n_gEq, n_gEq2, n_gLe2, n_gLt2, n_m1, n_add, n_mul, n_lt, n_le, n_eq, n_cl, n_in, n_rem, n_mlt, n_mle, n_ltm, n_lem, n_eqm, n_meq, n_bit, n_shl, n_b0, n_b1, n_sub, n_inT, nT, nF, lT, lF, eT, eF, not_false_eq_true, not_true_eq_false, sI_at, sI_c, sI_j, aI_at, aI_c, sL_at, sL_c, sL_j, true_and, and_true, not_true_eq_false, not_false_eq_true, forall_const, true_implies, false_implies, implies_true, if_true, if_false, ite_true, ite_false, Bool.not_eq_true, Bool.not_eq_false, Bool.true_eq_false, Bool.false_eq_true, false_and, and_false, or_true, true_or, false_or, or_false, Bool.toNat_false, ecn, Nat.add_zero]
            rw [Nat.add_zero] at q
            exact q
          | true =>
            simp (disch := first | omega | assumption) only [n_lit, n_gLt, n_gLe, n_gEq, n_gEq2, n_gLe2, n_gLt2, n_m1, n_add, n_mul, n_lt, n_le, n_eq, n_cl, n_in, n_rem, n_mlt, n_mle, n_ltm, n_lem, n_eqm, n_meq, n_bit, n_shl, n_b0, n_b1, n_sub, n_inT, nT, nF, lT, lF, eT, eF, not_false_eq_true, not_true_eq_false, sI_at, sI_c, sI_j, aI_at, aI_c, sL_at, sL_c, sL_j, true_and, and_true, not_true_eq_false, not_false_eq_true, forall_const, true_implies, false_implies, implies_true, if_true, if_false, ite_true, ite_false, Bool.not_eq_true, Bool.not_eq_false, Bool.true_eq_false, Bool.false_eq_true, false_and, and_false, or_true, true_or, false_or, or_false, Bool.toNat_true]
            refine cw_silent h1 (by omega) ?_
            cases c2 : w.si i with
            | true =>
              have q := next0 (by rw [hsa, c1, c2]; rfl)
              simp (disch := first | omega | assumption) only [n_lit, n_gLt, n_gLe, n_gEq, n_gEq2, n_gLe2, n_gLt2, n_m1, n_add, n_mul, n_lt, n_le, n_eq, n_cl, n_in, n_rem, n_mlt, n_mle, n_ltm, n_lem, n_eqm, n_meq, n_bit, n_shl, n_b0, n_b1, n_sub, n_inT, nT, nF, lT, lF, eT, eF, not_false_eq_true, not_true_eq_false, sI_at, sI_c, sI_j, aI_at, aI_c, sL_at, sL_c, sL_j, true_and, and_true, not_true_eq_false, not_false_eq_true, forall_const, true_implies, false_implies, implies_true, if_true, if_false, ite_true, ite_false, Bool.not_eq_true, Bool.not_eq_false, Bool.true_eq_false, Bool.false_eq_true, false_and, and_false, or_true, true_or, false_or, or_false, Bool.toNat_true, ecn, Nat.add_zero]
              rw [Nat.add_zero] at q
              exact q
            | false =>
              have q := next1 1 (by rw [hsa, c1, c2, decide_eq_true l1, Bool.or_true]; rfl) (by rw [if_pos (by omega)])
              simp (disch := first | omega | assumption) only [n_lit, n_gLt, n_gLe, n_gEq, n_gEq2, n_gLe2, n_gLt2, n_m1, n_add, n_mul, n_lt, n_le, n_eq, n_cl, n_in, n_rem, n_mlt, n_mle, n_ltm, n_lem, n_eqm, n_meq, n_bit, n_shl, n_b0, n_b1, n_sub, n_inT, nT, nF, lT, lF, eT, eF, not_false_eq_true, not_true_eq_false, sI_at, sI_c, sI_j, aI_at, aI_c, sL_at, sL_c, sL_j, true_and, and_true, not_true_eq_false, not_false_eq_true, forall_const, true_implies, false_implies, implies_true, if_true, if_false, ite_true, ite_false, Bool.not_eq_true, Bool.not_eq_false, Bool.true_eq_false, Bool.false_eq_true, false_and, and_false, or_true, true_or, false_or, or_false, Bool.toNat_false, ecn]
              exact q
        · simp (disch := first | omega | assumption) only [n_lit, n_gLt, n_gLe, n_gEq, n_gEq2, n_gLe2, n_gLt2, n_m1, n_add, n_mul, n_lt, n_le, n_eq, n_cl, n_in, n_rem, n_mlt, n_mle, n_ltm, n_lem, n_eqm, n_meq, n_bit, n_shl, n_b0, n_b1, n_sub, n_inT, nT, nF, lT, lF, eT, eF, not_false_eq_true, not_true_eq_false, sI_at, sI_c, sI_j, aI_at, aI_c, sL_at, sL_c, sL_j, true_and, and_true, not_true_eq_false, not_false_eq_true, forall_const, true_implies, false_implies, implies_true, if_true, if_false, ite_true, ite_false, Bool.not_eq_true, Bool.not_eq_false, Bool.true_eq_false, Bool.false_eq_true, false_and, and_false, or_true, true_or, false_or, or_false, ecn]
          refine c_sideHas hd (by omega) ?_
          rw [eha]
          have hf : saS w d (stp w d) s i = false := by rw [hsa, decide_eq_false l0, decide_eq_false l1, Bool.or_false, Bool.and_false, Bool.and_false]
          have q := next0 hf
          cases c1 : haS w d (stp w d) s i with
          | false =>
            simp (disch := first | omega | assumption) only [n_lit, n_gLt, n_gLe, n_gEq, n_gEq2, n_gLe2, n_gLt2, n_m1, n_add, n_mul, n_lt, n_le, n_eq, n_cl, n_in, n_rem, n_mlt, n_mle, n_ltm, n_lem, n_eqm, n_meq, n_bit, n_shl, n_b0, n_b1, n_sub, n_inT, nT, nF, lT, lF, eT, eF, not_false_eq_true, not_true_eq_false, sI_at, sI_c, sI_j, aI_at, aI_c, sL_at, sL_c, sL_j, true_and, and_true, not_true_eq_false, not_false_eq_true, forall_const, true_implies, false_implies, implies_true, if_true, if_false, ite_true, ite_false, Bool.not_eq_true, Bool.not_eq_false, Bool.true_eq_false, Bool.false_eq_true, false_and, and_false, or_true, true_or, false_or, or_false, Bool.toNat_false, ecn, Nat.add_zero]
            rw [Nat.add_zero] at q
            exact q
          | true =>
            simp (disch := first | omega | assumption) only [n_lit, n_gLt, n_gLe, n_gEq, n_gEq2, n_gLe2, n_gLt2, n_m1, n_add, n_mul, n_lt, n_le, n_eq, n_cl, n_in, n_rem, n_mlt, n_mle, n_ltm, n_lem, n_eqm, n_meq, n_bit, n_shl, n_b0, n_b1, n_sub, n_inT, nT, nF, lT, lF, eT, eF, not_false_eq_true, not_true_eq_false, sI_at, sI_c, sI_j, aI_at, aI_c, sL_at, sL_c, sL_j, true_and, and_true, not_true_eq_false, not_false_eq_true, forall_const, true_implies, false_implies, implies_true, if_true, if_false, ite_true, ite_false, Bool.not_eq_true, Bool.not_eq_false, Bool.true_eq_false, Bool.false_eq_true, false_and, and_false, or_true, true_or, false_or, or_false, Bool.toNat_true, ecn, Nat.add_zero]
            rw [Nat.add_zero] at q
            exact q
  refine v_Run_say_0 (c_side hr ?_)
  have hsame : ∀ p, p < 16 → I (r + 5) (d * 16 + p) = nI (if p < w.v.n then (if p < 0 then (stt w d).cn s p else (stp w d).cn s p) else 0) := fun p hp => by
    rw [hcn p hp]
    by_cases q : p < w.v.n
    · rw [if_pos q, if_pos q, if_neg (by omega)]
    · rw [if_neg q, if_neg q]
  by_cases z0 : I (r + 1) d = nI 0
  · have hno : ∀ p, p < w.v.n → haS w d (stp w d) s p = false := fun p hp => by
      have := hha p (by omega)
      rw [z0, b_0, decide_eq_true hp, Bool.true_and] at this
      exact this.symm
    have hns : ∀ p, p < w.v.n → saS w d (stp w d) s p = false := fun p hp => by
      unfold saS
      rw [hno p hp, Bool.false_and]
    simp (disch := first | omega | assumption) only [n_lit, n_gLt, n_gLe, n_gEq, n_gEq2, n_gLe2, n_gLt2, n_m1, n_add, n_mul, n_lt, n_le, n_eq, n_cl, n_in, n_rem, n_mlt, n_mle, n_ltm, n_lem, n_eqm, n_meq, n_bit, n_shl, n_b0, n_b1, n_sub, n_inT, nT, nF, lT, lF, eT, eF, not_false_eq_true, not_true_eq_false, sI_at, sI_c, sI_j, aI_at, aI_c, sL_at, sL_c, sL_j, true_and, and_true, not_true_eq_false, not_false_eq_true, forall_const, true_implies, false_implies, implies_true, if_true, if_false, ite_true, ite_false, Bool.not_eq_true, Bool.not_eq_false, Bool.true_eq_false, Bool.false_eq_true, false_and, and_false, or_true, true_or, false_or, or_false, z0]
    refine hK _ _ ⟨fun a c1 c2 => sI_c c1, fun j hj => sI_j hj, fun j hj => by rw [sI_c (by omega)], fun a ha => sL_c ha, fun j hj => sL_j hj, fun p hp => ?_, fun p hp => ?_, fun k hk => ?_⟩
    · rw [sI_at, b_0, stt_sa]
      by_cases q : p < w.v.n
      · rw [hns p q, Bool.and_false]
      · rw [decide_eq_false q, Bool.false_and]
    · rw [sI_c (by omega), hcn p hp]
      by_cases q : p < w.v.n
      · rw [if_pos q, if_pos q, stt_cn, hns p q, if_neg (by simp), Nat.add_zero]
      · rw [if_neg q, if_neg q]
    · rw [sL_at, l_0]
      by_cases q : k < w.v.m
      · have := (ok.2.2.2.2.2.2 k q).1
        unfold went goS
        rw [hns _ this, Bool.false_and, Bool.and_false]
      · rw [decide_eq_false q, Bool.false_and]
  · simp (disch := first | omega | assumption) only [n_lit, n_gLt, n_gLe, n_gEq, n_gEq2, n_gLe2, n_gLt2, n_m1, n_add, n_mul, n_lt, n_le, n_eq, n_cl, n_in, n_rem, n_mlt, n_mle, n_ltm, n_lem, n_eqm, n_meq, n_bit, n_shl, n_b0, n_b1, n_sub, n_inT, nT, nF, lT, lF, eT, eF, not_false_eq_true, not_true_eq_false, sI_at, sI_c, sI_j, aI_at, aI_c, sL_at, sL_c, sL_j, true_and, and_true, not_true_eq_false, not_false_eq_true, forall_const, true_implies, false_implies, implies_true, if_true, if_false, ite_true, ite_false, Bool.not_eq_true, Bool.not_eq_false, Bool.true_eq_false, Bool.false_eq_true, false_and, and_false, or_true, true_or, false_or, or_false, z0]
    refine loop w.v.n 0 (by omega) _ _ _ (fun a c1 c2 => sI_c c1) (fun j hj => sI_j hj) (fun j hj => by rw [sI_c (by omega)]) (fun a ha => sL_c ha) (fun j hj => sL_j hj) (fun p hp => by rw [b_0]; rfl) (fun p hp => by rw [sI_c (by omega)]; exact hsame p hp)
