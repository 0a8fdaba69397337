/-! WAYS: a village alone; loud -/
/-- the village asked, in the reference's numbers -/
def VM (v : Vil) (o : Nat) (I : MI) : Prop := v.ok 40 ∧ (610 ≤ o ∧ o ≤ 810) ∧ I 186 11 = nI o ∧ vilM o v I
theorem VM.fr {v : Vil} {o : Nat} {I I' : MI} (h : VM v o I) (h1 : I' 186 11 = I 186 11) (h2 : I' 187 = I 187) : VM v o I' := ⟨h.1, h.2.1, h1.trans h.2.2.1, vilM_fr h2 h.2.2.2⟩
theorem vm_people {v : Vil} {o : Nat} {b : Bool} {I : MI} {L : ML} {K : Int32 → Bool → MI → ML → Prop} (h : VM v o I) (hK : K (nI v.n) b I L) : CI m_M_people [vr 22 186] b I L K := by
  obtain ⟨-, a2, a3, a4⟩ := h
  have e := a4.1.1
  refine v_M_people_0 ?_
  simp (disch := first | omega | assumption) only [n_lit, n_gLt, n_gLe, n_gEq, n_gEq2, n_gLe2, n_gLt2, n_m1, n_add, n_mul, n_lt, n_le, n_eq, n_cl, n_in, n_rem, n_mlt, n_mle, n_ltm, n_lem, n_eqm, n_meq, n_bit, n_shl, n_b0, n_b1, n_sub, n_inT, nT, nF, lT, lF, eT, eF, not_false_eq_true, not_true_eq_false, sI_at, sI_c, sI_j, aI_at, aI_c, sL_at, sL_c, sL_j, true_and, and_true, not_true_eq_false, not_false_eq_true, forall_const, true_implies, false_implies, implies_true, if_true, if_false, ite_true, ite_false, Bool.not_eq_true, Bool.not_eq_false, Bool.true_eq_false, Bool.false_eq_true, false_and, and_false, or_true, true_or, false_or, or_false, a3, Nat.add_zero, e]
  exact hK
theorem vm_ties {v : Vil} {o : Nat} {b : Bool} {I : MI} {L : ML} {K : Int32 → Bool → MI → ML → Prop} (h : VM v o I) (hK : K (nI v.m) b I L) : CI m_M_ties [vr 22 186] b I L K := by
  obtain ⟨-, a2, a3, a4⟩ := h
  have e := a4.1.2.1
  refine v_M_ties_0 ?_
  simp (disch := first | omega | assumption) only [n_lit, n_gLt, n_gLe, n_gEq, n_gEq2, n_gLe2, n_gLt2, n_m1, n_add, n_mul, n_lt, n_le, n_eq, n_cl, n_in, n_rem, n_mlt, n_mle, n_ltm, n_lem, n_eqm, n_meq, n_bit, n_shl, n_b0, n_b1, n_sub, n_inT, nT, nF, lT, lF, eT, eF, not_false_eq_true, not_true_eq_false, sI_at, sI_c, sI_j, aI_at, aI_c, sL_at, sL_c, sL_j, true_and, and_true, not_true_eq_false, not_false_eq_true, forall_const, true_implies, false_implies, implies_true, if_true, if_false, ite_true, ite_false, Bool.not_eq_true, Bool.not_eq_false, Bool.true_eq_false, Bool.false_eq_true, false_and, and_false, or_true, true_or, false_or, or_false, a3, e]
  exact hK
theorem vm_tieOf {v : Vil} {o k q : Nat} {b : Bool} {I : MI} {L : ML} {K : Int32 → Bool → MI → ML → Prop} (h : VM v o I) (hk : k < v.m) (hq : q < 4) (hK : K (nI (if q = 0 then v.fr k else if q = 1 then v.to k else if q = 2 then v.dy k else v.st k)) b I L) : CI m_M_tieOf [vr 22 186, vi (nI k), vi (nI q)] b I L K := by
  obtain ⟨okv, a2, a3, a4⟩ := h
  obtain ⟨e0, e1, e2, e3⟩ := a4.2.2 k hk
  have := okv.2.1
  refine v_M_tieOf_0 ?_
  rcases (by omega : q = 0 ∨ q = 1 ∨ q = 2 ∨ q = 3) with rfl | rfl | rfl | rfl
  · simp (disch := first | omega | assumption) only [n_lit, n_gLt, n_gLe, n_gEq, n_gEq2, n_gLe2, n_gLt2, n_m1, n_add, n_mul, n_lt, n_le, n_eq, n_cl, n_in, n_rem, n_mlt, n_mle, n_ltm, n_lem, n_eqm, n_meq, n_bit, n_shl, n_b0, n_b1, n_sub, n_inT, nT, nF, lT, lF, eT, eF, not_false_eq_true, not_true_eq_false, sI_at, sI_c, sI_j, aI_at, aI_c, sL_at, sL_c, sL_j, true_and, and_true, not_true_eq_false, not_false_eq_true, forall_const, true_implies, false_implies, implies_true, if_true, if_false, ite_true, ite_false, Bool.not_eq_true, Bool.not_eq_false, Bool.true_eq_false, Bool.false_eq_true, false_and, and_false, or_true, true_or, false_or, or_false, a3, Nat.add_zero, e0]
    exact hK
  · simp (disch := first | omega | assumption) only [n_lit, n_gLt, n_gLe, n_gEq, n_gEq2, n_gLe2, n_gLt2, n_m1, n_add, n_mul, n_lt, n_le, n_eq, n_cl, n_in, n_rem, n_mlt, n_mle, n_ltm, n_lem, n_eqm, n_meq, n_bit, n_shl, n_b0, n_b1, n_sub, n_inT, nT, nF, lT, lF, eT, eF, not_false_eq_true, not_true_eq_false, sI_at, sI_c, sI_j, aI_at, aI_c, sL_at, sL_c, sL_j, true_and, and_true, not_true_eq_false, not_false_eq_true, forall_const, true_implies, false_implies, implies_true, if_true, if_false, ite_true, ite_false, Bool.not_eq_true, Bool.not_eq_false, Bool.true_eq_false, Bool.false_eq_true, false_and, and_false, or_true, true_or, false_or, or_false, a3, e1]
    exact hK
  · simp (disch := first | omega | assumption) only [n_lit, n_gLt, n_gLe, n_gEq, n_gEq2, n_gLe2, n_gLt2, n_m1, n_add, n_mul, n_lt, n_le, n_eq, n_cl, n_in, n_rem, n_mlt, n_mle, n_ltm, n_lem, n_eqm, n_meq, n_bit, n_shl, n_b0, n_b1, n_sub, n_inT, nT, nF, lT, lF, eT, eF, not_false_eq_true, not_true_eq_false, sI_at, sI_c, sI_j, aI_at, aI_c, sL_at, sL_c, sL_j, true_and, and_true, not_true_eq_false, not_false_eq_true, forall_const, true_implies, false_implies, implies_true, if_true, if_false, ite_true, ite_false, Bool.not_eq_true, Bool.not_eq_false, Bool.true_eq_false, Bool.false_eq_true, false_and, and_false, or_true, true_or, false_or, or_false, a3, e2]
    exact hK
  · simp (disch := first | omega | assumption) only [n_lit, n_gLt, n_gLe, n_gEq, n_gEq2, n_gLe2, n_gLt2, n_m1, n_add, n_mul, n_lt, n_le, n_eq, n_cl, n_in, n_rem, n_mlt, n_mle, n_ltm, n_lem, n_eqm, n_meq, n_bit, n_shl, n_b0, n_b1, n_sub, n_inT, nT, nF, lT, lF, eT, eF, not_false_eq_true, not_true_eq_false, sI_at, sI_c, sI_j, aI_at, aI_c, sL_at, sL_c, sL_j, true_and, and_true, not_true_eq_false, not_false_eq_true, forall_const, true_implies, false_implies, implies_true, if_true, if_false, ite_true, ite_false, Bool.not_eq_true, Bool.not_eq_false, Bool.true_eq_false, Bool.false_eq_true, false_and, and_false, or_true, true_or, false_or, or_false, a3, e3]
    exact hK
theorem cm_isVillage {B : Bk} {a1 : Int32} {b : Bool} {I : MI} {L : ML} {K : Int32 → Bool → MI → ML → Prop} (ok : B.ok) (hm : bkM 0 B I) (hy : inR a1 B.nv = true → ∀ I' o, (∀ a, a ≠ 186 → I' a = I a) → VM (B.vl a1.toNatClampNeg) o I' → K (nI 1) b I' L) (hf : inR a1 B.nv = false → K (nI 0) b I L) : CI m_M_isVillage [vr 22 186, vi a1] b I L K := by
  have h1 := ok.1.1
  have m1 := hm.1.1
  refine v_M_isVillage_0 ?_
  cases h : inR a1 B.nv with
  | true =>
    obtain ⟨k, hk, rfl⟩ := (inR_iff (by omega)).mp h
    have ek : (nI k).toNatClampNeg = k := n_cl (by omega)
    have g := fun I' => hy h I' (610 + 200 * k)
    rw [ek] at g
    have hv := hm.2.2.1 k hk
    rw [Nat.zero_add] at hv
    refine c_isOf_y (s := 0) (by decide) m1 (by omega) hk ⟨fun _ => v_M_placeOf_0 ⟨fun q => absurd rfl q, fun _ => ⟨Or.inr rfl, ?_⟩⟩, fun q => absurd (by decide) q⟩
    rw [show (610 : Int32) + 200 * nI k = nI (610 + 200 * k) by
      rw [show (200 : Int32) = nI 200 from rfl, n_mul]
      exact n_add 610 _]
    exact g _ (fun a ha => sI_c ha) ⟨ok.2.2.1 k hk, ⟨by omega, by omega⟩, sI_at _ _ _ _, vilM_fr (sI_c (by omega)) hv⟩
  | false =>
    refine c_isOf_n (s := 0) (by decide) m1 (by omega) (inR_out (by omega) h) ⟨fun q => absurd rfl q, fun _ => ⟨Or.inl rfl, hf h⟩⟩
/-- the village asked, in the class's cells -/
theorem c_vil {B : Bk} {a1 : Int32} {I : MI} (ok : B.ok) (hc : bkC 1 B I) (h : inR a1 B.nv = true) : vp_in a1 2 ∧ (B.vl a1.toNatClampNeg).ok 40 ∧ (2 + 4 + 7 * a1.toNatClampNeg) + 6 < 36 ∧ vilC (2 + 4 + 7 * a1.toNatClampNeg) (B.vl a1.toNatClampNeg) I := by
  have h1 := ok.1.1
  obtain ⟨k, hk, rfl⟩ := (inR_iff (by omega)).mp h
  have ek : (nI k).toNatClampNeg = k := n_cl (by omega)
  rw [ek]
  refine ⟨by rw [n_in (by omega)]; omega, ok.2.2.1 k hk, by omega, ?_⟩
  have := hc.2.2.1 k hk
  rw [show 1 + 5 + 7 * k = 2 + 4 + 7 * k by omega] at this
  exact this
/-- to how many others ties lead from one -/
def ldB (v : Vil) (p i q : Nat) : Bool := anyN i (fun t => decide (v.fr t = p) && decide (v.to t = q))
def ldE (v : Vil) (p : Nat) : Nat := cntB (ldB v p v.m) v.n
theorem or_bit {x : Int32} {n q : Nat} {f : Nat → Bool} (hn : n ≤ 32) (hq : q < n) (hx : x = bI n f) : x ||| nI (2 ^ q) = bI n (fun i => f i || decide (q = i)) := by
  subst hx
  refine bI_of hn (fun i hi => ?_)
  rw [b_or, bI_bit f hn, b_2p hi]
  by_cases c : i < n
  · rw [decide_eq_true c, Bool.true_and, Bool.true_and]
  · rw [decide_eq_false c, Bool.false_and, Bool.false_and, decide_eq_false (by omega)]
    rfl
theorem ldB_s (v : Vil) (p i q : Nat) : ldB v p (i + 1) q = (ldB v p i q || (decide (v.fr i = p) && decide (v.to i = q))) := rfl
theorem gsN_max {e : Nat → Nat} : ∀ {n j : Nat}, gsN e n = some j → ∀ i, i < n → e i ≤ e j
  | n + 1, j, h, i, hi => by
    obtain ⟨n1, n2⟩ := gsN_next (e := e) (n := n)
    cases q : gsN e n with
    | none =>
      rw [n1 q] at h
      cases h
      have : n = 0 := by
        rcases Nat.eq_zero_or_pos n with z | z
        · exact z
        · obtain ⟨j, hj⟩ := gsN_some (e := e) z
          rw [q] at hj
          cases hj
      rw [show i = n by omega]
      exact Nat.le_refl _
    | some z =>
      have := gsN_max q
      rw [n2 z q] at h
      split at h
      · cases h
        rcases (by omega : i = n ∨ i < n) with r | r
        · rw [r]
          exact Nat.le_refl _
        · have := this i r
          omega
      · cases h
        rcases (by omega : i = n ∨ i < n) with r | r
        · rw [r]
          omega
        · exact this i r
theorem ldE_pos {v : Vil} (hv : v.ok 40) (hm : 0 < v.m) : v.fr 0 < v.n ∧ 0 < ldE v (v.fr 0) := by
  obtain ⟨z1, z2, -⟩ := hv.2.2.2.2.2.2 0 hm
  refine ⟨z1, ?_⟩
  have hb : ldB v (v.fr 0) v.m (v.to 0) = true := anyN_iff.mpr ⟨0, hm, by rw [decide_eq_true rfl, decide_eq_true rfl]; rfl⟩
  have pos : ∀ (f : Nat → Bool) n q, q < n → f q = true → 0 < cntB f n := by
    intro f n
    induction n with
    | zero => intro q h; omega
    | succ n ih =>
      intro q h hf
      show 0 < cntB f n + (f n).toNat
      by_cases c : q = n
      · subst c
        rw [hf]
        exact Nat.succ_pos _
      · have := ih q (by omega) hf
        omega
  exact pos _ _ _ z2 hb
theorem ldE_0 {v : Vil} (h : v.m = 0) (p : Nat) : ldE v p = 0 := by
  unfold ldE
  rw [h]
  have z : ∀ n, cntB (ldB v p 0) n = 0 := by
    intro n
    induction n with
    | zero => rfl
    | succ n ih =>
      show cntB (ldB v p 0) n + 0 = 0
      rw [ih]
  exact z _
/-- the class's best one: with a number above 0 alone -/
def ldI (e : Nat → Nat) : Option Nat → Int32
  | none => nM
  | some j => if e j = 0 then nM else nI j
def ldV (e : Nat → Nat) : Option Nat → Nat
  | none => 0
  | some j => e j
theorem c_loud {v : Vil} {r : Nat} {I : MI} (hv : v.ok 40) (hV : vilC r v I) {b : Bool} {L : ML} {K : Int32 → Bool → MI → ML → Prop} (hK : K (ldI (ldE v) (gsN (ldE v) v.n)) b I L) : CI m_Village_loudest [vr 19 r] b I L K := by
  have hn := hv.1.2
  have hm := hv.2.1
  have e0 := hV.1.1
  have e3 := hV.1.2.1
  have he : ∀ p, ldE v p ≤ 16 := fun p => Nat.le_trans (cntB_le _ _) hn
  have inner : ∀ p, p < v.n → (SW m_Village_loudest 6 [vr 19 r, vi (ldI (ldE v) (gsN (ldE v) (p + 1))), vi (nI (ldV (ldE v) (gsN (ldE v) (p + 1)))), vi (nI (p + 1)), un, un] [] b I L (kI K)) → ∀ n i, i + n = v.m → SW m_Village_loudest 20 [vr 19 r, vi (ldI (ldE v) (gsN (ldE v) p)), vi (nI (ldV (ldE v) (gsN (ldE v) p))), vi (nI p), vi (bI v.n (ldB v p i)), vi (nI i)] [] b I L (kI K) := by
    intro p hp nxt n
    induction n with
    | zero =>
      intro i hi
      obtain rfl : i = v.m := by omega
      refine v_Village_loudest_20 ⟨fun _ => c_bitCount hn ?_, fun q => absurd (by rw [e3, n_le (by omega) (by omega)]; exact Nat.le_refl _) q⟩
      rw [show nI p + (1 : Int32) = nI (p + 1) from n_add p 1]
      have hp2 := he p
      obtain ⟨n1, n2⟩ := gsN_next (e := ldE v) (n := p)
      show (nI (ldE v p) ≤ _ → _) ∧ (¬ nI (ldE v p) ≤ _ → _)
      cases h : gsN (ldE v) p with
      | none =>
        rw [n1 h] at nxt
        refine ⟨fun q => ?_, fun q => c_bitCount hn ?_⟩
        · have q : nI (ldE v p) ≤ nI 0 := q
          rw [n_le (by omega) (by omega)] at q
          have z : ldE v p = 0 := by omega
          have g1 : ldI (ldE v) (some p) = nM := if_pos z
          have g2 : ldV (ldE v) (some p) = 0 := z
          rw [g1, g2] at nxt
          exact nxt
        · have q : ¬ nI (ldE v p) ≤ nI 0 := q
          rw [n_le (by omega) (by omega)] at q
          have g1 : ldI (ldE v) (some p) = nI p := if_neg (by omega)
          rw [g1] at nxt
          exact nxt
      | some j =>
        have hj := he j
        rw [n2 j h] at nxt
        show (nI (ldE v p) ≤ nI (ldE v j) → _) ∧ (¬ nI (ldE v p) ≤ nI (ldE v j) → _)
        rw [n_le (by omega) (by omega)]
        refine ⟨fun q => ?_, fun q => c_bitCount hn ?_⟩
        · rw [if_neg (by omega)] at nxt
          exact nxt
        · rw [if_pos (by omega)] at nxt
          have g1 : ldI (ldE v) (some p) = nI p := if_neg (by omega)
          rw [g1] at nxt
          exact nxt
    | succ n ih =>
      intro i hi
      obtain ⟨z1, z2, -⟩ := hv.2.2.2.2.2.2 i (by omega)
      obtain ⟨t1, t2, -⟩ := hV.2.2 i (by omega)
      have ei : (nI i).toNatClampNeg = i := n_cl (by omega)
      have hin : vp_in (nI i) 41 := by
        rw [n_in (by omega)]
        omega
      have nx := ih (i + 1) (by omega)
      refine v_Village_loudest_20 ⟨fun q => absurd q (by rw [e3, n_le (by omega) (by omega)]; omega), fun _ => ⟨hin, ?_⟩⟩
      rw [ei, t1, t2, show nI i + (1 : Int32) = nI (i + 1) from n_add i 1, n_eq (by omega) (by omega)]
      refine ⟨fun q => ?_, fun q => ⟨hin, ?_⟩⟩
      · rw [show bI v.n (ldB v p (i + 1)) = bI v.n (ldB v p i) from bI_cong (fun j _ => by rw [ldB_s, decide_eq_false q, Bool.false_and, Bool.or_false])] at nx
        exact nx
      · rw [show (1 : Int32) <<< (nI (v.to i) &&& 31) = nI (2 ^ v.to i) from n_shl (by omega), or_bit (n := v.n) (by omega) z2 rfl]
        rw [show bI v.n (ldB v p (i + 1)) = bI v.n (fun j => ldB v p i j || decide (v.to i = j)) from bI_cong (fun j _ => by rw [ldB_s, decide_eq_true (Decidable.not_not.mp q), Bool.true_and])] at nx
        exact nx
  have outer : ∀ n p, p + n = v.n → SW m_Village_loudest 6 [vr 19 r, vi (ldI (ldE v) (gsN (ldE v) p)), vi (nI (ldV (ldE v) (gsN (ldE v) p))), vi (nI p), un, un] [] b I L (kI K) := by
    intro n
    induction n with
    | zero =>
      intro p hp
      obtain rfl : p = v.n := by omega
      exact v_Village_loudest_6 ⟨fun _ => hK, fun q => absurd (by rw [e0, n_le (by omega) (by omega)]; exact Nat.le_refl _) q⟩
    | succ n ih =>
      intro p hp
      refine v_Village_loudest_6 ⟨fun q => absurd q (by rw [e0, n_le (by omega) (by omega)]; omega), fun _ => ?_⟩
      have g := inner p (by omega) (ih (p + 1) (by omega)) v.m 0 (by omega)
      rw [show bI v.n (ldB v p 0) = nI 0 from b_ext (fun i hi => by
        rw [bI_bit _ (by omega), b_0]
        show (decide (i < v.n) && false) = false
        rw [Bool.and_false])] at g
      exact g
  exact v_Village_loudest_0 (outer v.n 0 (by omega))
theorem cm_loud {v : Vil} {o : Nat} {I : MI} (W : VM v o I) {b : Bool} {L : ML} {K : Int32 → Bool → MI → ML → Prop} (hK : K (optI (gsN (ldE v) v.n)) b I L) : SW m_M_loud 24 [vr 22 186, un, vi nM, vi (nI 0), vi (nI 0), un, un] [] b I L (kI K) := by
  have hv := W.1
  have hn := hv.1.2
  have hm := hv.2.1
  have he : ∀ p, ldE v p ≤ 16 := fun p => Nat.le_trans (cntB_le _ _) hn
  have inner : ∀ p, p < v.n → ∀ x3 : Int32, (∀ j, gsN (ldE v) p = some j → x3 = nI (ldE v j)) → (∀ x3 : Int32, (∀ j, gsN (ldE v) (p + 1) = some j → x3 = nI (ldE v j)) → SW m_M_loud 24 [vr 22 186, un, vi (optI (gsN (ldE v) (p + 1))), vi x3, vi (nI (p + 1)), un, un] [] b I L (kI K)) → ∀ n i, i + n = v.m → SW m_M_loud 39 [vr 22 186, un, vi (optI (gsN (ldE v) p)), vi x3, vi (nI p), vi (bI v.n (ldB v p i)), vi (nI i)] [] b I L (kI K) := by
    intro p hp x3 h3 nxt n
    induction n with
    | zero =>
      intro i hi
      obtain rfl : i = v.m := by omega
      refine v_M_loud_39 (vm_ties W ⟨fun _ => ?_, fun q => absurd (by rw [n_le (by omega) (by omega)]; exact Nat.le_refl _) q⟩)
      rw [show nI p + (1 : Int32) = nI (p + 1) from n_add p 1]
      have hp2 := he p
      obtain ⟨n1, n2⟩ := gsN_next (e := ldE v) (n := p)
      cases h : gsN (ldE v) p with
      | none =>
        have n1 := n1 h
        have g := nxt (nI (ldE v p)) (fun j hj => by
          rw [n1] at hj
          cases hj
          rfl)
        rw [n1] at g
        exact ⟨fun _ => cm_bitsI hn g, fun z => absurd (show nM < nI 0 by decide) z⟩
      | some j =>
        have h3 := h3 j h
        have hj := gsN_lt h
        subst h3
        have hj2 := he j
        have n2 := n2 j h
        refine ⟨fun z => absurd (show nI j < nI 0 from z) (by rw [n_lt (by omega) (by omega)]; omega), fun _ => cm_bitsI hn ?_⟩
        show (nI (ldE v j) < nI (ldE v p) → _) ∧ (¬ nI (ldE v j) < nI (ldE v p) → _)
        rw [n_lt (by omega) (by omega)]
        refine ⟨fun q => cm_bitsI hn ?_, fun q => ?_⟩
        · rw [if_pos q] at n2
          have g := nxt (nI (ldE v p)) (fun j hj => by
            rw [n2] at hj
            cases hj
            rfl)
          rw [n2] at g
          exact g
        · rw [if_neg q] at n2
          have g := nxt (nI (ldE v j)) (fun j2 hj => by
            rw [n2] at hj
            cases hj
            rfl)
          rw [n2] at g
          exact g
    | succ n ih =>
      intro i hi
      obtain ⟨z1, z2, -⟩ := hv.2.2.2.2.2.2 i (by omega)
      have nx := ih (i + 1) (by omega)
      refine v_M_loud_39 (vm_ties W ⟨fun q => absurd q (by rw [n_le (by omega) (by omega)]; omega), fun _ => vm_tieOf (k := i) (q := 0) W (by omega) (by omega) ?_⟩)
      rw [if_pos rfl, show nI i + (1 : Int32) = nI (i + 1) from n_add i 1, n_eq (by omega) (by omega)]
      refine ⟨fun q => ?_, fun q => vm_tieOf (k := i) (q := 1) W (by omega) (by omega) ?_⟩
      · rw [show bI v.n (ldB v p (i + 1)) = bI v.n (ldB v p i) from bI_cong (fun j _ => by rw [ldB_s, decide_eq_false q, Bool.false_and, Bool.or_false])] at nx
        rw [show bI v.n (ldB v p i) ||| (0 : Int32) = bI v.n (ldB v p i) from b_ext (fun j _ => by rw [b_or, b_0', Bool.or_false])]
        exact nx
      · rw [if_neg (by omega), if_pos rfl, show (1 : Int32) <<< (nI (v.to i) &&& 31) = nI (2 ^ v.to i) from n_shl (by omega), or_bit (n := v.n) (by omega) z2 rfl]
        rw [show bI v.n (ldB v p (i + 1)) = bI v.n (fun j => ldB v p i j || decide (v.to i = j)) from bI_cong (fun j _ => by rw [ldB_s, decide_eq_true (Decidable.not_not.mp q), Bool.true_and])] at nx
        exact nx
  have outer : ∀ n p, p + n = v.n → ∀ x3 : Int32, (∀ j, gsN (ldE v) p = some j → x3 = nI (ldE v j)) → SW m_M_loud 24 [vr 22 186, un, vi (optI (gsN (ldE v) p)), vi x3, vi (nI p), un, un] [] b I L (kI K) := by
    intro n
    induction n with
    | zero =>
      intro p hp x3 _
      obtain rfl : p = v.n := by omega
      exact v_M_loud_24 (vm_people W ⟨fun _ => hK, fun q => absurd (by rw [n_le (by omega) (by omega)]; exact Nat.le_refl _) q⟩)
    | succ n ih =>
      intro p hp x3 h3
      refine v_M_loud_24 (vm_people W ⟨fun q => absurd q (by rw [n_le (by omega) (by omega)]; omega), fun _ => ?_⟩)
      have g := inner p (by omega) x3 h3 (fun x3 h => ih (p + 1) (by omega) x3 h) v.m 0 (by omega)
      rw [show bI v.n (ldB v p 0) = nI 0 from b_ext (fun i hi => by
        rw [bI_bit _ (by omega), b_0]
        show (decide (i < v.n) && false) = false
        rw [Bool.and_false])] at g
      exact g
  exact outer v.n 0 (by omega) (nI 0) (fun j hj => by cases hj)
theorem op_loud : H_loud := by
  intro a1
  refine Op2.q (fun B => if inR a1 B.nv = true then ldI (ldE (B.vl a1.toNatClampNeg)) (gsN (ldE (B.vl a1.toNatClampNeg)) (B.vl a1.toNatClampNeg).n) else nM) (fun B I b L K ok hc k => ?_) (fun B I b L K ok hm k => ?_)
  · refine v_S_loud_0 ?_
    have h1 := ok.1.1
    have kk := k b I L (fun _ _ => rfl)
    cases h : inR a1 B.nv with
    | true =>
      obtain ⟨v1, v2, v3, v4⟩ := c_vil ok hc h
      rw [if_pos h] at kk
      obtain ⟨q, hq, rfl⟩ := (inR_iff (by omega)).mp h
      exact c_hasV_y hc.1.1 (by omega) hq ⟨fun q => absurd q (by decide), fun _ => ⟨v1, c_loud v2 v4 kk⟩⟩
    | false =>
      rw [if_neg (by rw [h]; exact Bool.false_ne_true)] at kk
      exact c_hasV_n hc.1.1 (by omega) (fun q => by rw [(inR_iff (by omega)).mpr q] at h; cases h) ⟨fun _ => kk, fun q => absurd rfl q⟩
  · refine v_M_loud_0 (cm_isVillage ok hm (fun h I1 o f1 W1 => ?_) (fun h => ?_))
    · have kk := k b I1 L (fun a ha => f1 a (by omega))
      rw [if_pos h] at kk
      have hv := W1.1
      have hn := hv.1
      have hm2 := hv.2.1
      obtain ⟨j, hj⟩ := gsN_some (e := ldE (B.vl a1.toNatClampNeg)) hn.1
      refine ⟨fun q => absurd q (by decide), fun _ => vm_ties W1 ?_⟩
      show (¬ nI (B.vl a1.toNatClampNeg).m = nI 0 → _) ∧ (¬ ¬ nI (B.vl a1.toNatClampNeg).m = nI 0 → _)
      rw [n_eq (by omega) (by omega)]
      refine ⟨fun q => ?_, fun q => ?_⟩
      · refine cm_loud W1 ?_
        obtain ⟨p1, p2⟩ := ldE_pos hv (by omega)
        have p3 := gsN_max hj _ p1
        rw [hj] at kk ⊢
        rw [show ldI (ldE (B.vl a1.toNatClampNeg)) (some j) = nI j from if_neg (by omega)] at kk
        exact kk
      · rw [hj, show ldI (ldE (B.vl a1.toNatClampNeg)) (some j) = nM from if_pos (ldE_0 (Decidable.not_not.mp q) j)] at kk
        exact kk
    · have kk := k b I L (fun _ _ => rfl)
      rw [if_neg (by rw [h]; exact Bool.false_ne_true)] at kk
      exact ⟨fun _ => kk, fun q => absurd rfl q⟩
