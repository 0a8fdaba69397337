/-! WHAT-IFS: worst, the class -/
def woW (B : Bk) (a1 a2 : Int32) (p : Nat) : Wd := B.wx a1 a2 (bgX (fun q => decide (q = p)))
def woA (B : Bk) (a1 a2 : Int32) (p : Nat) : Nat := cntB (fun q => anyN 201 (fun e => hold (woW B a1 a2 p) e q)) (woW B a1 a2 p).v.n
def rlN : Option (Nat × Nat) → Nat
  | none => 0
  | some r => r.2
def woL (B : Bk) (a1 a2 : Int32) (p : Nat) : Nat := rlN (rW (woW B a1 a2 p))
theorem woA_le {B : Bk} {a1 a2 : Int32} (hn : (B.wd a1 a2).v.n ≤ 16) (p : Nat) : woA B a1 a2 p ≤ 201 := Nat.le_trans (cntB_le _ _) (Nat.le_trans (show (woW B a1 a2 p).v.n ≤ 16 from hn) (by omega))
theorem rlN_le {w : Wd} : rlN (rW w) ≤ 201 := by
  unfold rW
  cases e : rgU w 201 with
  | none => exact Nat.zero_le _
  | some r =>
    have := rgU_in e
    show r.2 ≤ 201
    omega
theorem rl_if (w : Wd) : (if nI 0 < rlI (rW w) then rlI (rW w) else nI 0) = nI (rlN (rW w)) := by
  have h := rlN_le (w := w)
  cases e : rW w with
  | none =>
    show (if nI 0 < nM then nM else nI 0) = nI 0
    rw [if_neg (by decide)]
  | some r =>
    rw [e] at h
    have h : r.2 ≤ 201 := h
    show (if nI 0 < nI r.2 then nI r.2 else nI 0) = nI r.2
    by_cases c : 0 < r.2
    · rw [if_pos (by rw [n_lt (by omega) (by omega)]; exact c)]
    · rw [if_neg (by rw [n_lt (by omega) (by omega)]; exact c)]
      rw [show r.2 = 0 by omega]
def qWo (e : Nat → Nat) (n : Nat) (a : Int32) : Int32 := if a = nI 0 then optI (gsN e n) else gsV e (gsN e n)
theorem gs_step {e : Nat → Nat} {n : Nat} (he : ∀ i, e i ≤ 201) : (nI (e n) ≤ gsV e (gsN e n) → gsN e (n + 1) = gsN e n) ∧ (¬ nI (e n) ≤ gsV e (gsN e n) → gsN e (n + 1) = some n) := by
  have h0 := he n
  obtain ⟨n1, n2⟩ := gsN_next (e := e) (n := n)
  cases h : gsN e n with
  | none =>
    refine ⟨fun q => ?_, fun _ => n1 h⟩
    have q : nI (e n) ≤ nM := q
    rw [n_lem (by omega)] at q
    exact q.elim
  | some j =>
    have h1 := he j
    show (nI (e n) ≤ nI (e j) → _) ∧ (¬ nI (e n) ≤ nI (e j) → _)
    rw [n_le (by omega) (by omega), n2 j h]
    exact ⟨fun q => if_neg (by omega), fun q => if_pos (by omega)⟩
theorem c_widest {B : Bk} {a1 a2 : Int32} {a : Int32} {I : MI} {L : ML} (ok : B.ok) (g2 : tkB B a1 a2 = true) (hn : (B.wd a1 a2).v.n ≤ 16) (l0 : lif B a1 a2 wi0 I L) {b : Bool} {K : Int32 → Bool → MI → ML → Prop} (hK : ∀ I' L', (∀ a, a < 154 ∨ 186 ≤ a → I' a = I a) → K (qWo (woA B a1 a2) (B.wd a1 a2).v.n a) b I' L') : CI m_Search_widestBeginning [vr 15 181, vi a] b I L K := by
  have he : ∀ i, woA B a1 a2 i ≤ 201 := fun i => woA_le hn i
  have loop : ∀ n i, i + n = (B.wd a1 a2).v.n → ∀ (x : Wi) (I1 : MI) (L1 : ML), (x = wi0 ∨ ∃ f, x = bgX f) → (∀ a, a < 154 ∨ 186 ≤ a → I1 a = I a) → lif B a1 a2 x I1 L1 → SW m_Search_widestBeginning 7 [vr 15 181, vi a, vi (optI (gsN (woA B a1 a2) i)), vi (gsV (woA B a1 a2) (gsN (woA B a1 a2) i)), vi (nI i), un] [] b I1 L1 (kI K) := by
    intro n
    induction n with
    | zero =>
      intro i hi x I1 L1 hx f1 l1
      obtain rfl : i = (B.wd a1 a2).v.n := by omega
      have e1 : I1 154 0 = nI (B.wd a1 a2).v.n := l1.1.1.1
      have kk := hK I1 L1 f1
      unfold qWo at kk
      refine v_Search_widestBeginning_7 ?_
      simp (disch := first | omega | assumption) only [n_lit, n_gLt, n_gLe, n_gEq, n_gEq2, n_gLe2, n_gLt2, n_m1, n_add, n_mul, n_lt, n_le, n_eq, n_cl, n_in, n_rem, n_mlt, n_mle, n_ltm, n_lem, n_eqm, n_meq, n_bit, n_shl, n_b0, n_b1, n_sub, n_inT, nT, nF, lT, lF, eT, eF, not_false_eq_true, not_true_eq_false, sI_at, sI_c, sI_j, aI_at, aI_c, sL_at, sL_c, sL_j, true_and, and_true, not_true_eq_false, not_false_eq_true, forall_const, true_implies, false_implies, implies_true, if_true, if_false, ite_true, ite_false, Bool.not_eq_true, Bool.not_eq_false, Bool.true_eq_false, Bool.false_eq_true, false_and, and_false, or_true, true_or, false_or, or_false, e1]
      by_cases c : a = nI 0
      · rw [if_pos c] at kk
        exact ⟨fun _ => kk, fun z => absurd c z⟩
      · rw [if_neg c] at kk
        exact ⟨fun z => absurd z c, fun _ => kk⟩
    | succ n ih =>
      intro i hi x I1 L1 hx f1 l1
      have e1 : I1 154 0 = nI (B.wd a1 a2).v.n := l1.1.1.1
      obtain ⟨n1, n2⟩ := gs_step (n := i) he
      have l2 := lif_bg (g := fun q => decide (q = i)) (m := nI (2 ^ i)) (fun q hq => by
        rw [b_2p hq]
        exact decide_eq_decide.mpr ⟨fun z => z.symm, fun z => z.symm⟩) hx l1
      have W2 := lif_W ok g2 (bgX_ok _) l2
      refine v_Search_widestBeginning_7 ?_
      simp (disch := first | omega | assumption) only [n_lit, n_gLt, n_gLe, n_gEq, n_gEq2, n_gLe2, n_gLt2, n_m1, n_add, n_mul, n_lt, n_le, n_eq, n_cl, n_in, n_rem, n_mlt, n_mle, n_ltm, n_lem, n_eqm, n_meq, n_bit, n_shl, n_b0, n_b1, n_sub, n_inT, nT, nF, lT, lF, eT, eF, not_false_eq_true, not_true_eq_false, sI_at, sI_c, sI_j, aI_at, aI_c, sL_at, sL_c, sL_j, true_and, and_true, not_true_eq_false, not_false_eq_true, forall_const, true_implies, false_implies, implies_true, if_true, if_false, ite_true, ite_false, Bool.not_eq_true, Bool.not_eq_false, Bool.true_eq_false, Bool.false_eq_true, false_and, and_false, or_true, true_or, false_or, or_false, e1]
      refine v_Given_beginBy_0 ⟨Or.inr rfl, ?_⟩
      refine c_ever W2 W2.still (fun I3 L3 f3 m3 => ?_)
      have l3 := lif_fr (I' := I3) (L' := L3) (fun a q1 q2 => f3 a (by omega)) (fun a ha => m3 a (by omega) (by omega) (by omega)) l2
      have nxt := ih (i + 1) (by omega) _ I3 L3 (Or.inr ⟨_, rfl⟩) (fun a ha => by rw [f3 a (by omega), sI_c (by omega), sI_c (by omega), f1 a ha]) l3
      refine c_bitCount (n := (woW B a1 a2 i).v.n) (f := fun q => anyN 201 (fun e => hold (woW B a1 a2 i) e q)) hn ?_
      show (nI (woA B a1 a2 i) ≤ _ → _) ∧ (¬ nI (woA B a1 a2 i) ≤ _ → _)
      refine ⟨fun c => ?_, fun c => ?_⟩
      · rw [n1 c] at nxt
        exact nxt
      · rw [n2 c] at nxt
        exact nxt
  refine v_Search_widestBeginning_0 (loop (B.wd a1 a2).v.n 0 (by omega) wi0 I L (Or.inl rfl) (fun a _ => rfl) l0)
theorem c_longest {B : Bk} {a1 a2 : Int32} {a : Int32} {I : MI} {L : ML} (ok : B.ok) (g2 : tkB B a1 a2 = true) (hn : (B.wd a1 a2).v.n ≤ 16) (l0 : lif B a1 a2 wi0 I L) {b : Bool} {K : Int32 → Bool → MI → ML → Prop} (hK : ∀ I' L', (∀ a, a < 154 ∨ 186 ≤ a → I' a = I a) → K (qWo (woL B a1 a2) (B.wd a1 a2).v.n a) b I' L') : CI m_Search_longestBeginning [vr 15 181, vi a] b I L K := by
  have he : ∀ i, woL B a1 a2 i ≤ 201 := fun i => rlN_le
  have loop : ∀ n i, i + n = (B.wd a1 a2).v.n → ∀ (x : Wi) (I1 : MI) (L1 : ML), (x = wi0 ∨ ∃ f, x = bgX f) → (∀ a, a < 154 ∨ 186 ≤ a → I1 a = I a) → lif B a1 a2 x I1 L1 → SW m_Search_longestBeginning 7 [vr 15 181, vi a, vi (optI (gsN (woL B a1 a2) i)), vi (gsV (woL B a1 a2) (gsN (woL B a1 a2) i)), vi (nI i), un] [] b I1 L1 (kI K) := by
    intro n
    induction n with
    | zero =>
      intro i hi x I1 L1 hx f1 l1
      obtain rfl : i = (B.wd a1 a2).v.n := by omega
      have e1 : I1 154 0 = nI (B.wd a1 a2).v.n := l1.1.1.1
      have kk := hK I1 L1 f1
      unfold qWo at kk
      refine v_Search_longestBeginning_7 ?_
      simp (disch := first | omega | assumption) only [n_lit, n_gLt, n_gLe, n_gEq, n_gEq2, n_gLe2, n_gLt2, n_m1, n_add, n_mul, n_lt, n_le, n_eq, n_cl, n_in, n_rem, n_mlt, n_mle, n_ltm, n_lem, n_eqm, n_meq, n_bit, n_shl, n_b0, n_b1, n_sub, n_inT, nT, nF, lT, lF, eT, eF, not_false_eq_true, not_true_eq_false, sI_at, sI_c, sI_j, aI_at, aI_c, sL_at, sL_c, sL_j, true_and, and_true, not_true_eq_false, not_false_eq_true, forall_const, true_implies, false_implies, implies_true, if_true, if_false, ite_true, ite_false, Bool.not_eq_true, Bool.not_eq_false, Bool.true_eq_false, Bool.false_eq_true, false_and, and_false, or_true, true_or, false_or, or_false, e1]
      by_cases c : a = nI 0
      · rw [if_pos c] at kk
        exact ⟨fun _ => kk, fun z => absurd c z⟩
      · rw [if_neg c] at kk
        exact ⟨fun z => absurd z c, fun _ => kk⟩
    | succ n ih =>
      intro i hi x I1 L1 hx f1 l1
      have e1 : I1 154 0 = nI (B.wd a1 a2).v.n := l1.1.1.1
      obtain ⟨n1, n2⟩ := gs_step (n := i) he
      have l2 := lif_bg (g := fun q => decide (q = i)) (m := nI (2 ^ i)) (fun q hq => by
        rw [b_2p hq]
        exact decide_eq_decide.mpr ⟨fun z => z.symm, fun z => z.symm⟩) hx l1
      have W2 := lif_W ok g2 (bgX_ok _) l2
      refine v_Search_longestBeginning_7 ⟨fun q => absurd q (by rw [e1, n_le (by omega) (by omega)]; omega), fun _ => ?_⟩
      rw [show (1 : Int32) <<< (nI i &&& 31) = nI (2 ^ i) from n_shl (by omega), show nI i + (1 : Int32) = nI (i + 1) from n_add i 1]
      refine v_Given_beginBy_0 ⟨Or.inr rfl, ?_⟩
      refine c_live (w := woW B a1 a2 i) (s0 := 0) (U := 201) (by omega) (by omega) (Or.inr ⟨by omega, rfl⟩) (Or.inr rfl) W2 (fun e he => absurd he (Nat.not_lt_zero _)) (by omega) (fun N I3 L3 f3 m3 n5 n6 rows R _ _ hs => ?_)
      have s1 := (hs rfl).1
      have r2 := (rgI_d R).2
      rw [← rgU_stop n6 s1] at r2
      clear R
      have r2 : I3 165 5 = rlI (rW (woW B a1 a2 i)) := r2
      have l3 := lif_fr (I' := I3) (L' := L3) (fun a q1 q2 => f3 a (by omega)) (fun a ha => m3 a (by omega) (by omega) (by omega)) l2
      have nxt := ih (i + 1) (by omega) _ I3 L3 (Or.inr ⟨_, rfl⟩) (fun a ha => by rw [f3 a (by omega), sI_c (by omega), sI_c (by omega), f1 a ha]) l3
      have e : (if nI 0 < I3 165 5 then I3 165 5 else nI 0) = nI (woL B a1 a2 i) := by
        rw [r2]
        exact rl_if _
      try dsimp only
      rw [show (if (0 : Int32) < I3 165 5 then I3 165 5 else 0) = nI (woL B a1 a2 i) from e]
      refine ⟨fun c => ?_, fun c => ?_⟩
      · rw [n1 c] at nxt
        exact nxt
      · rw [n2 c] at nxt
        exact nxt
  refine v_Search_longestBeginning_0 (loop (B.wd a1 a2).v.n 0 (by omega) wi0 I L (Or.inl rfl) (fun a _ => rfl) l0)
